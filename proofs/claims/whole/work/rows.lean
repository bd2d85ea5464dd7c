section
-- ===== PART A: goes FIRST, ahead of the names: the tables' words, and 'selects' of the private methods out of them =====
/-- a private method of a class that the tables say can be made, by its rows of tables_1 -/
def lw_okq (q : MethodName × Nat) : Prop := (q.1.cls ≠ "java/lang/invoke/MethodHandle" ∧ q.1.cls ≠ "java/lang/invoke/VarHandle") ∧ Cond.instantiable q.1.cls q.2 ∈ tables_1 ∧ Cond.privateMethod q.1 ∈ tables_1 ∧ Cond.instanceMethod q.1 ∈ tables_1
theorem lw_p0 : lw_okq (⟨"HedgeChains$Hedge", "addChains", "(III)V"⟩, 4) := ⟨⟨by decide +kernel, by decide +kernel⟩, List.mem_of_getElem? (i := 37) (by decide +kernel), List.mem_of_getElem? (i := 60) (by decide +kernel), List.mem_of_getElem? (i := 61) (by decide +kernel)⟩
theorem lw_p1 : lw_okq (⟨"HedgeChains$Hedge", "changeChain", "(III)V"⟩, 4) := ⟨⟨by decide +kernel, by decide +kernel⟩, List.mem_of_getElem? (i := 37) (by decide +kernel), List.mem_of_getElem? (i := 64) (by decide +kernel), List.mem_of_getElem? (i := 65) (by decide +kernel)⟩
theorem lw_p2 : lw_okq (⟨"HedgeChains$Hedge", "has", "(I)Z"⟩, 4) := ⟨⟨by decide +kernel, by decide +kernel⟩, List.mem_of_getElem? (i := 37) (by decide +kernel), List.mem_of_getElem? (i := 68) (by decide +kernel), List.mem_of_getElem? (i := 69) (by decide +kernel)⟩
theorem lw_p3 : lw_okq (⟨"HedgeChains", "isChain", "(II)Z"⟩, 6) := ⟨⟨by decide +kernel, by decide +kernel⟩, List.mem_of_getElem? (i := 14) (by decide +kernel), List.mem_of_getElem? (i := 275) (by decide +kernel), List.mem_of_getElem? (i := 276) (by decide +kernel)⟩
theorem lw_p4 : lw_okq (⟨"HedgeChains$Land", "isClosed", "(I)Z"⟩, 14) := ⟨⟨by decide +kernel, by decide +kernel⟩, List.mem_of_getElem? (i := 28) (by decide +kernel), List.mem_of_getElem? (i := 286) (by decide +kernel), List.mem_of_getElem? (i := 287) (by decide +kernel)⟩
theorem lw_p5 : lw_okq (⟨"HedgeChains$Land", "canLay", "(II)Z"⟩, 14) := ⟨⟨by decide +kernel, by decide +kernel⟩, List.mem_of_getElem? (i := 28) (by decide +kernel), List.mem_of_getElem? (i := 290) (by decide +kernel), List.mem_of_getElem? (i := 291) (by decide +kernel)⟩
theorem lw_p6 : lw_okq (⟨"HedgeChains$Hedge", "isToLay", "(I)Z"⟩, 4) := ⟨⟨by decide +kernel, by decide +kernel⟩, List.mem_of_getElem? (i := 37) (by decide +kernel), List.mem_of_getElem? (i := 294) (by decide +kernel), List.mem_of_getElem? (i := 295) (by decide +kernel)⟩
theorem lw_p7 : lw_okq (⟨"HedgeChains$Hedge", "thicknessOf", "(I)I"⟩, 4) := ⟨⟨by decide +kernel, by decide +kernel⟩, List.mem_of_getElem? (i := 37) (by decide +kernel), List.mem_of_getElem? (i := 298) (by decide +kernel), List.mem_of_getElem? (i := 299) (by decide +kernel)⟩
theorem lw_p8 : lw_okq (⟨"HedgeChains$History", "keep", "(LHedgeChains$State;)V"⟩, 3) := ⟨⟨by decide +kernel, by decide +kernel⟩, List.mem_of_getElem? (i := 171) (by decide +kernel), List.mem_of_getElem? (i := 302) (by decide +kernel), List.mem_of_getElem? (i := 303) (by decide +kernel)⟩
theorem lw_p9 : lw_okq (⟨"HedgeChains$State", "copyFrom", "(LHedgeChains$State;)V"⟩, 3) := ⟨⟨by decide +kernel, by decide +kernel⟩, List.mem_of_getElem? (i := 22) (by decide +kernel), List.mem_of_getElem? (i := 306) (by decide +kernel), List.mem_of_getElem? (i := 307) (by decide +kernel)⟩
theorem lw_p10 : lw_okq (⟨"HedgeChains$Land", "copyFrom", "(LHedgeChains$Land;)V"⟩, 14) := ⟨⟨by decide +kernel, by decide +kernel⟩, List.mem_of_getElem? (i := 28) (by decide +kernel), List.mem_of_getElem? (i := 310) (by decide +kernel), List.mem_of_getElem? (i := 311) (by decide +kernel)⟩
theorem lw_p11 : lw_okq (⟨"HedgeChains$Hedge", "copyFrom", "(LHedgeChains$Hedge;)V"⟩, 4) := ⟨⟨by decide +kernel, by decide +kernel⟩, List.mem_of_getElem? (i := 37) (by decide +kernel), List.mem_of_getElem? (i := 314) (by decide +kernel), List.mem_of_getElem? (i := 315) (by decide +kernel)⟩
theorem lw_p12 : lw_okq (⟨"HedgeChains$Contract", "copyFrom", "(LHedgeChains$Contract;)V"⟩, 4) := ⟨⟨by decide +kernel, by decide +kernel⟩, List.mem_of_getElem? (i := 71) (by decide +kernel), List.mem_of_getElem? (i := 321) (by decide +kernel), List.mem_of_getElem? (i := 322) (by decide +kernel)⟩
theorem lw_p13 : lw_okq (⟨"HedgeChains$Land", "layChain", "(II)V"⟩, 14) := ⟨⟨by decide +kernel, by decide +kernel⟩, List.mem_of_getElem? (i := 28) (by decide +kernel), List.mem_of_getElem? (i := 328) (by decide +kernel), List.mem_of_getElem? (i := 329) (by decide +kernel)⟩
theorem lw_p14 : lw_okq (⟨"HedgeChains$Land", "endContractIfNoneStands", "(I)V"⟩, 14) := ⟨⟨by decide +kernel, by decide +kernel⟩, List.mem_of_getElem? (i := 28) (by decide +kernel), List.mem_of_getElem? (i := 333) (by decide +kernel), List.mem_of_getElem? (i := 334) (by decide +kernel)⟩
theorem lw_p15 : lw_okq (⟨"HedgeChains$Hedge", "numberOf", "(I)I"⟩, 4) := ⟨⟨by decide +kernel, by decide +kernel⟩, List.mem_of_getElem? (i := 37) (by decide +kernel), List.mem_of_getElem? (i := 337) (by decide +kernel), List.mem_of_getElem? (i := 338) (by decide +kernel)⟩
def lw_privs_1 : List (MethodName × Nat) := [(⟨"HedgeChains$Hedge", "addChains", "(III)V"⟩, 4), (⟨"HedgeChains$Hedge", "changeChain", "(III)V"⟩, 4), (⟨"HedgeChains$Hedge", "has", "(I)Z"⟩, 4), (⟨"HedgeChains", "isChain", "(II)Z"⟩, 6), (⟨"HedgeChains$Land", "isClosed", "(I)Z"⟩, 14), (⟨"HedgeChains$Land", "canLay", "(II)Z"⟩, 14), (⟨"HedgeChains$Hedge", "isToLay", "(I)Z"⟩, 4), (⟨"HedgeChains$Hedge", "thicknessOf", "(I)I"⟩, 4), (⟨"HedgeChains$History", "keep", "(LHedgeChains$State;)V"⟩, 3), (⟨"HedgeChains$State", "copyFrom", "(LHedgeChains$State;)V"⟩, 3), (⟨"HedgeChains$Land", "copyFrom", "(LHedgeChains$Land;)V"⟩, 14), (⟨"HedgeChains$Hedge", "copyFrom", "(LHedgeChains$Hedge;)V"⟩, 4), (⟨"HedgeChains$Contract", "copyFrom", "(LHedgeChains$Contract;)V"⟩, 4), (⟨"HedgeChains$Land", "layChain", "(II)V"⟩, 14), (⟨"HedgeChains$Land", "endContractIfNoneStands", "(I)V"⟩, 14), (⟨"HedgeChains$Hedge", "numberOf", "(I)I"⟩, 4)]
theorem lw_r1 : ∀ q ∈ lw_privs_1, lw_okq q := List.forall_mem_cons.mpr ⟨lw_p0, List.forall_mem_cons.mpr ⟨lw_p1, List.forall_mem_cons.mpr ⟨lw_p2, List.forall_mem_cons.mpr ⟨lw_p3, List.forall_mem_cons.mpr ⟨lw_p4, List.forall_mem_cons.mpr ⟨lw_p5, List.forall_mem_cons.mpr ⟨lw_p6, List.forall_mem_cons.mpr ⟨lw_p7, List.forall_mem_cons.mpr ⟨lw_p8, List.forall_mem_cons.mpr ⟨lw_p9, List.forall_mem_cons.mpr ⟨lw_p10, List.forall_mem_cons.mpr ⟨lw_p11, List.forall_mem_cons.mpr ⟨lw_p12, List.forall_mem_cons.mpr ⟨lw_p13, List.forall_mem_cons.mpr ⟨lw_p14, List.forall_mem_cons.mpr ⟨lw_p15, fun _ h => absurd h List.not_mem_nil⟩⟩⟩⟩⟩⟩⟩⟩⟩⟩⟩⟩⟩⟩⟩⟩
theorem lw_p16 : lw_okq (⟨"HedgeChains$Hedge", "kindOf", "(I)I"⟩, 4) := ⟨⟨by decide +kernel, by decide +kernel⟩, List.mem_of_getElem? (i := 37) (by decide +kernel), List.mem_of_getElem? (i := 341) (by decide +kernel), List.mem_of_getElem? (i := 342) (by decide +kernel)⟩
theorem lw_p17 : lw_okq (⟨"HedgeChains$Land", "canCut", "(II)Z"⟩, 14) := ⟨⟨by decide +kernel, by decide +kernel⟩, List.mem_of_getElem? (i := 28) (by decide +kernel), List.mem_of_getElem? (i := 349) (by decide +kernel), List.mem_of_getElem? (i := 350) (by decide +kernel)⟩
theorem lw_p18 : lw_okq (⟨"HedgeChains$Hedge", "isToCut", "(I)Z"⟩, 4) := ⟨⟨by decide +kernel, by decide +kernel⟩, List.mem_of_getElem? (i := 37) (by decide +kernel), List.mem_of_getElem? (i := 353) (by decide +kernel), List.mem_of_getElem? (i := 354) (by decide +kernel)⟩
theorem lw_p19 : lw_okq (⟨"HedgeChains$Land", "cutChain", "(II)V"⟩, 14) := ⟨⟨by decide +kernel, by decide +kernel⟩, List.mem_of_getElem? (i := 28) (by decide +kernel), List.mem_of_getElem? (i := 357) (by decide +kernel), List.mem_of_getElem? (i := 358) (by decide +kernel)⟩
theorem lw_p20 : lw_okq (⟨"HedgeChains$Land", "canPlant", "(II)Z"⟩, 14) := ⟨⟨by decide +kernel, by decide +kernel⟩, List.mem_of_getElem? (i := 28) (by decide +kernel), List.mem_of_getElem? (i := 365) (by decide +kernel), List.mem_of_getElem? (i := 366) (by decide +kernel)⟩
theorem lw_p21 : lw_okq (⟨"HedgeChains$Land", "plantChain", "(II)V"⟩, 14) := ⟨⟨by decide +kernel, by decide +kernel⟩, List.mem_of_getElem? (i := 28) (by decide +kernel), List.mem_of_getElem? (i := 370) (by decide +kernel), List.mem_of_getElem? (i := 371) (by decide +kernel)⟩
theorem lw_p22 : lw_okq (⟨"HedgeChains$Land", "grubChain", "(II)V"⟩, 14) := ⟨⟨by decide +kernel, by decide +kernel⟩, List.mem_of_getElem? (i := 28) (by decide +kernel), List.mem_of_getElem? (i := 379) (by decide +kernel), List.mem_of_getElem? (i := 380) (by decide +kernel)⟩
theorem lw_p23 : lw_okq (⟨"HedgeChains$Land", "passWeek", "()I"⟩, 14) := ⟨⟨by decide +kernel, by decide +kernel⟩, List.mem_of_getElem? (i := 28) (by decide +kernel), List.mem_of_getElem? (i := 387) (by decide +kernel), List.mem_of_getElem? (i := 388) (by decide +kernel)⟩
theorem lw_p24 : lw_okq (⟨"HedgeChains$Hedge", "grow", "(I)V"⟩, 4) := ⟨⟨by decide +kernel, by decide +kernel⟩, List.mem_of_getElem? (i := 37) (by decide +kernel), List.mem_of_getElem? (i := 391) (by decide +kernel), List.mem_of_getElem? (i := 392) (by decide +kernel)⟩
theorem lw_p25 : lw_okq (⟨"HedgeChains$Hedge", "growOlder", "(I)V"⟩, 4) := ⟨⟨by decide +kernel, by decide +kernel⟩, List.mem_of_getElem? (i := 37) (by decide +kernel), List.mem_of_getElem? (i := 395) (by decide +kernel), List.mem_of_getElem? (i := 396) (by decide +kernel)⟩
theorem lw_p26 : lw_okq (⟨"HedgeChains$Hedge", "ageOf", "(I)I"⟩, 4) := ⟨⟨by decide +kernel, by decide +kernel⟩, List.mem_of_getElem? (i := 37) (by decide +kernel), List.mem_of_getElem? (i := 399) (by decide +kernel), List.mem_of_getElem? (i := 400) (by decide +kernel)⟩
theorem lw_p27 : lw_okq (⟨"HedgeChains$Hedge", "growLaid", "(I)V"⟩, 4) := ⟨⟨by decide +kernel, by decide +kernel⟩, List.mem_of_getElem? (i := 37) (by decide +kernel), List.mem_of_getElem? (i := 405) (by decide +kernel), List.mem_of_getElem? (i := 406) (by decide +kernel)⟩
theorem lw_p28 : lw_okq (⟨"HedgeChains$Land", "finesDue", "()I"⟩, 14) := ⟨⟨by decide +kernel, by decide +kernel⟩, List.mem_of_getElem? (i := 28) (by decide +kernel), List.mem_of_getElem? (i := 409) (by decide +kernel), List.mem_of_getElem? (i := 410) (by decide +kernel)⟩
theorem lw_p29 : lw_okq (⟨"HedgeChains$Land", "finePerWeek", "(I)I"⟩, 14) := ⟨⟨by decide +kernel, by decide +kernel⟩, List.mem_of_getElem? (i := 28) (by decide +kernel), List.mem_of_getElem? (i := 413) (by decide +kernel), List.mem_of_getElem? (i := 414) (by decide +kernel)⟩
theorem lw_p30 : lw_okq (⟨"HedgeChains$Land", "spend", "(I)V"⟩, 14) := ⟨⟨by decide +kernel, by decide +kernel⟩, List.mem_of_getElem? (i := 28) (by decide +kernel), List.mem_of_getElem? (i := 417) (by decide +kernel), List.mem_of_getElem? (i := 418) (by decide +kernel)⟩
theorem lw_p31 : lw_okq (⟨"HedgeChains$Land", "settingOf", "(I)I"⟩, 14) := ⟨⟨by decide +kernel, by decide +kernel⟩, List.mem_of_getElem? (i := 28) (by decide +kernel), List.mem_of_getElem? (i := 429) (by decide +kernel), List.mem_of_getElem? (i := 430) (by decide +kernel)⟩
def lw_privs_2 : List (MethodName × Nat) := [(⟨"HedgeChains$Hedge", "kindOf", "(I)I"⟩, 4), (⟨"HedgeChains$Land", "canCut", "(II)Z"⟩, 14), (⟨"HedgeChains$Hedge", "isToCut", "(I)Z"⟩, 4), (⟨"HedgeChains$Land", "cutChain", "(II)V"⟩, 14), (⟨"HedgeChains$Land", "canPlant", "(II)Z"⟩, 14), (⟨"HedgeChains$Land", "plantChain", "(II)V"⟩, 14), (⟨"HedgeChains$Land", "grubChain", "(II)V"⟩, 14), (⟨"HedgeChains$Land", "passWeek", "()I"⟩, 14), (⟨"HedgeChains$Hedge", "grow", "(I)V"⟩, 4), (⟨"HedgeChains$Hedge", "growOlder", "(I)V"⟩, 4), (⟨"HedgeChains$Hedge", "ageOf", "(I)I"⟩, 4), (⟨"HedgeChains$Hedge", "growLaid", "(I)V"⟩, 4), (⟨"HedgeChains$Land", "finesDue", "()I"⟩, 14), (⟨"HedgeChains$Land", "finePerWeek", "(I)I"⟩, 14), (⟨"HedgeChains$Land", "spend", "(I)V"⟩, 14), (⟨"HedgeChains$Land", "settingOf", "(I)I"⟩, 14)]
theorem lw_r2 : ∀ q ∈ lw_privs_2, lw_okq q := List.forall_mem_cons.mpr ⟨lw_p16, List.forall_mem_cons.mpr ⟨lw_p17, List.forall_mem_cons.mpr ⟨lw_p18, List.forall_mem_cons.mpr ⟨lw_p19, List.forall_mem_cons.mpr ⟨lw_p20, List.forall_mem_cons.mpr ⟨lw_p21, List.forall_mem_cons.mpr ⟨lw_p22, List.forall_mem_cons.mpr ⟨lw_p23, List.forall_mem_cons.mpr ⟨lw_p24, List.forall_mem_cons.mpr ⟨lw_p25, List.forall_mem_cons.mpr ⟨lw_p26, List.forall_mem_cons.mpr ⟨lw_p27, List.forall_mem_cons.mpr ⟨lw_p28, List.forall_mem_cons.mpr ⟨lw_p29, List.forall_mem_cons.mpr ⟨lw_p30, List.forall_mem_cons.mpr ⟨lw_p31, fun _ h => absurd h List.not_mem_nil⟩⟩⟩⟩⟩⟩⟩⟩⟩⟩⟩⟩⟩⟩⟩⟩
theorem lw_p32 : lw_okq (⟨"HedgeChains$Land", "changeSetting", "(II)V"⟩, 14) := ⟨⟨by decide +kernel, by decide +kernel⟩, List.mem_of_getElem? (i := 28) (by decide +kernel), List.mem_of_getElem? (i := 433) (by decide +kernel), List.mem_of_getElem? (i := 434) (by decide +kernel)⟩
theorem lw_p33 : lw_okq (⟨"HedgeChains$Contract", "make", "(III)V"⟩, 4) := ⟨⟨by decide +kernel, by decide +kernel⟩, List.mem_of_getElem? (i := 71) (by decide +kernel), List.mem_of_getElem? (i := 445) (by decide +kernel), List.mem_of_getElem? (i := 446) (by decide +kernel)⟩
theorem lw_p34 : lw_okq (⟨"HedgeChains$State", "fillSlot", "(I)V"⟩, 3) := ⟨⟨by decide +kernel, by decide +kernel⟩, List.mem_of_getElem? (i := 22) (by decide +kernel), List.mem_of_getElem? (i := 466) (by decide +kernel), List.mem_of_getElem? (i := 467) (by decide +kernel)⟩
theorem lw_p35 : lw_okq (⟨"HedgeChains$History", "bringBack", "(LHedgeChains$State;)V"⟩, 3) := ⟨⟨by decide +kernel, by decide +kernel⟩, List.mem_of_getElem? (i := 171) (by decide +kernel), List.mem_of_getElem? (i := 479) (by decide +kernel), List.mem_of_getElem? (i := 480) (by decide +kernel)⟩
theorem lw_p36 : lw_okq (⟨"HedgeChains$Text", "addSign", "(C)V"⟩, 2) := ⟨⟨by decide +kernel, by decide +kernel⟩, List.mem_of_getElem? (i := 191) (by decide +kernel), List.mem_of_getElem? (i := 487) (by decide +kernel), List.mem_of_getElem? (i := 488) (by decide +kernel)⟩
theorem lw_p37 : lw_okq (⟨"HedgeChains$HedgeReader", "faultOf", "(LHedgeChains$Text;)I"⟩, 3) := ⟨⟨by decide +kernel, by decide +kernel⟩, List.mem_of_getElem? (i := 207) (by decide +kernel), List.mem_of_getElem? (i := 499) (by decide +kernel), List.mem_of_getElem? (i := 500) (by decide +kernel)⟩
theorem lw_p38 : lw_okq (⟨"HedgeChains$HedgeReader", "readPart", "(LHedgeChains$Text;)Z"⟩, 3) := ⟨⟨by decide +kernel, by decide +kernel⟩, List.mem_of_getElem? (i := 207) (by decide +kernel), List.mem_of_getElem? (i := 503) (by decide +kernel), List.mem_of_getElem? (i := 504) (by decide +kernel)⟩
theorem lw_p39 : lw_okq (⟨"HedgeChains$Text", "signAt", "(I)C"⟩, 2) := ⟨⟨by decide +kernel, by decide +kernel⟩, List.mem_of_getElem? (i := 191) (by decide +kernel), List.mem_of_getElem? (i := 507) (by decide +kernel), List.mem_of_getElem? (i := 508) (by decide +kernel)⟩
theorem lw_p40 : lw_okq (⟨"HedgeChains$HedgeReader", "readNumber", "(LHedgeChains$Text;)I"⟩, 3) := ⟨⟨by decide +kernel, by decide +kernel⟩, List.mem_of_getElem? (i := 207) (by decide +kernel), List.mem_of_getElem? (i := 517) (by decide +kernel), List.mem_of_getElem? (i := 518) (by decide +kernel)⟩
theorem lw_p41 : lw_okq (⟨"HedgeChains$Land", "replaceHedge", "(ILHedgeChains$Hedge;)V"⟩, 14) := ⟨⟨by decide +kernel, by decide +kernel⟩, List.mem_of_getElem? (i := 28) (by decide +kernel), List.mem_of_getElem? (i := 522) (by decide +kernel), List.mem_of_getElem? (i := 523) (by decide +kernel)⟩
theorem lw_p42 : lw_okq (⟨"HedgeChains$Land", "numberOfContracts", "()I"⟩, 14) := ⟨⟨by decide +kernel, by decide +kernel⟩, List.mem_of_getElem? (i := 28) (by decide +kernel), List.mem_of_getElem? (i := 530) (by decide +kernel), List.mem_of_getElem? (i := 531) (by decide +kernel)⟩
theorem lw_p43 : lw_okq (⟨"HedgeChains$State", "numberOfSnapshots", "()I"⟩, 3) := ⟨⟨by decide +kernel, by decide +kernel⟩, List.mem_of_getElem? (i := 22) (by decide +kernel), List.mem_of_getElem? (i := 534) (by decide +kernel), List.mem_of_getElem? (i := 535) (by decide +kernel)⟩
theorem lw_p44 : lw_okq (⟨"HedgeChains$Hedge", "longestRunBegin", "()I"⟩, 4) := ⟨⟨by decide +kernel, by decide +kernel⟩, List.mem_of_getElem? (i := 37) (by decide +kernel), List.mem_of_getElem? (i := 542) (by decide +kernel), List.mem_of_getElem? (i := 543) (by decide +kernel)⟩
theorem lw_p45 : lw_okq (⟨"HedgeChains$Hedge", "runFrom", "(I)I"⟩, 4) := ⟨⟨by decide +kernel, by decide +kernel⟩, List.mem_of_getElem? (i := 37) (by decide +kernel), List.mem_of_getElem? (i := 546) (by decide +kernel), List.mem_of_getElem? (i := 547) (by decide +kernel)⟩
theorem lw_p46 : lw_okq (⟨"HedgeChains$Hedge", "workToLay", "()I"⟩, 4) := ⟨⟨by decide +kernel, by decide +kernel⟩, List.mem_of_getElem? (i := 37) (by decide +kernel), List.mem_of_getElem? (i := 561) (by decide +kernel), List.mem_of_getElem? (i := 562) (by decide +kernel)⟩
theorem lw_p47 : lw_okq (⟨"HedgeChains$Hedge", "stakesToLay", "()I"⟩, 4) := ⟨⟨by decide +kernel, by decide +kernel⟩, List.mem_of_getElem? (i := 37) (by decide +kernel), List.mem_of_getElem? (i := 566) (by decide +kernel), List.mem_of_getElem? (i := 567) (by decide +kernel)⟩
def lw_privs_3 : List (MethodName × Nat) := [(⟨"HedgeChains$Land", "changeSetting", "(II)V"⟩, 14), (⟨"HedgeChains$Contract", "make", "(III)V"⟩, 4), (⟨"HedgeChains$State", "fillSlot", "(I)V"⟩, 3), (⟨"HedgeChains$History", "bringBack", "(LHedgeChains$State;)V"⟩, 3), (⟨"HedgeChains$Text", "addSign", "(C)V"⟩, 2), (⟨"HedgeChains$HedgeReader", "faultOf", "(LHedgeChains$Text;)I"⟩, 3), (⟨"HedgeChains$HedgeReader", "readPart", "(LHedgeChains$Text;)Z"⟩, 3), (⟨"HedgeChains$Text", "signAt", "(I)C"⟩, 2), (⟨"HedgeChains$HedgeReader", "readNumber", "(LHedgeChains$Text;)I"⟩, 3), (⟨"HedgeChains$Land", "replaceHedge", "(ILHedgeChains$Hedge;)V"⟩, 14), (⟨"HedgeChains$Land", "numberOfContracts", "()I"⟩, 14), (⟨"HedgeChains$State", "numberOfSnapshots", "()I"⟩, 3), (⟨"HedgeChains$Hedge", "longestRunBegin", "()I"⟩, 4), (⟨"HedgeChains$Hedge", "runFrom", "(I)I"⟩, 4), (⟨"HedgeChains$Hedge", "workToLay", "()I"⟩, 4), (⟨"HedgeChains$Hedge", "stakesToLay", "()I"⟩, 4)]
theorem lw_r3 : ∀ q ∈ lw_privs_3, lw_okq q := List.forall_mem_cons.mpr ⟨lw_p32, List.forall_mem_cons.mpr ⟨lw_p33, List.forall_mem_cons.mpr ⟨lw_p34, List.forall_mem_cons.mpr ⟨lw_p35, List.forall_mem_cons.mpr ⟨lw_p36, List.forall_mem_cons.mpr ⟨lw_p37, List.forall_mem_cons.mpr ⟨lw_p38, List.forall_mem_cons.mpr ⟨lw_p39, List.forall_mem_cons.mpr ⟨lw_p40, List.forall_mem_cons.mpr ⟨lw_p41, List.forall_mem_cons.mpr ⟨lw_p42, List.forall_mem_cons.mpr ⟨lw_p43, List.forall_mem_cons.mpr ⟨lw_p44, List.forall_mem_cons.mpr ⟨lw_p45, List.forall_mem_cons.mpr ⟨lw_p46, List.forall_mem_cons.mpr ⟨lw_p47, fun _ h => absurd h List.not_mem_nil⟩⟩⟩⟩⟩⟩⟩⟩⟩⟩⟩⟩⟩⟩⟩⟩
theorem lw_p48 : lw_okq (⟨"HedgeChains$Hedge", "stakesToCut", "()I"⟩, 4) := ⟨⟨by decide +kernel, by decide +kernel⟩, List.mem_of_getElem? (i := 37) (by decide +kernel), List.mem_of_getElem? (i := 574) (by decide +kernel), List.mem_of_getElem? (i := 575) (by decide +kernel)⟩
theorem lw_p49 : lw_okq (⟨"HedgeChains$Land", "weeksUntilLaid", "(I)I"⟩, 14) := ⟨⟨by decide +kernel, by decide +kernel⟩, List.mem_of_getElem? (i := 28) (by decide +kernel), List.mem_of_getElem? (i := 585) (by decide +kernel), List.mem_of_getElem? (i := 586) (by decide +kernel)⟩
theorem lw_p50 : lw_okq (⟨"HedgeChains$Land", "workAfter", "(I)I"⟩, 14) := ⟨⟨by decide +kernel, by decide +kernel⟩, List.mem_of_getElem? (i := 28) (by decide +kernel), List.mem_of_getElem? (i := 589) (by decide +kernel), List.mem_of_getElem? (i := 590) (by decide +kernel)⟩
theorem lw_p51 : lw_okq (⟨"HedgeChains$Orders", "reckon", "(LHedgeChains$Land;)V"⟩, 6) := ⟨⟨by decide +kernel, by decide +kernel⟩, List.mem_of_getElem? (i := 227) (by decide +kernel), List.mem_of_getElem? (i := 598) (by decide +kernel), List.mem_of_getElem? (i := 599) (by decide +kernel)⟩
theorem lw_p52 : lw_okq (⟨"HedgeChains$Orders", "lookAt", "(LHedgeChains$Land;)V"⟩, 6) := ⟨⟨by decide +kernel, by decide +kernel⟩, List.mem_of_getElem? (i := 227) (by decide +kernel), List.mem_of_getElem? (i := 602) (by decide +kernel), List.mem_of_getElem? (i := 603) (by decide +kernel)⟩
theorem lw_p53 : lw_okq (⟨"HedgeChains$Land", "weeksOfWork", "(I)I"⟩, 14) := ⟨⟨by decide +kernel, by decide +kernel⟩, List.mem_of_getElem? (i := 28) (by decide +kernel), List.mem_of_getElem? (i := 606) (by decide +kernel), List.mem_of_getElem? (i := 607) (by decide +kernel)⟩
theorem lw_p54 : lw_okq (⟨"HedgeChains$Orders", "leastOf", "(I)I"⟩, 6) := ⟨⟨by decide +kernel, by decide +kernel⟩, List.mem_of_getElem? (i := 227) (by decide +kernel), List.mem_of_getElem? (i := 612) (by decide +kernel), List.mem_of_getElem? (i := 613) (by decide +kernel)⟩
theorem lw_p55 : lw_okq (⟨"HedgeChains$Orders", "finesIfNext", "(II)I"⟩, 6) := ⟨⟨by decide +kernel, by decide +kernel⟩, List.mem_of_getElem? (i := 227) (by decide +kernel), List.mem_of_getElem? (i := 620) (by decide +kernel), List.mem_of_getElem? (i := 621) (by decide +kernel)⟩
theorem lw_p56 : lw_okq (⟨"HedgeChains$Orders", "leastFines", "()I"⟩, 6) := ⟨⟨by decide +kernel, by decide +kernel⟩, List.mem_of_getElem? (i := 227) (by decide +kernel), List.mem_of_getElem? (i := 626) (by decide +kernel), List.mem_of_getElem? (i := 627) (by decide +kernel)⟩
theorem lw_p57 : lw_okq (⟨"HedgeChains$Orders", "firstField", "()I"⟩, 6) := ⟨⟨by decide +kernel, by decide +kernel⟩, List.mem_of_getElem? (i := 227) (by decide +kernel), List.mem_of_getElem? (i := 630) (by decide +kernel), List.mem_of_getElem? (i := 631) (by decide +kernel)⟩
theorem lw_p58 : lw_okq (⟨"HedgeChainsModel", "lays", "(IIII)V"⟩, 11) := ⟨⟨by decide +kernel, by decide +kernel⟩, List.mem_of_getElem? (i := 634) (by decide +kernel), List.mem_of_getElem? (i := 640) (by decide +kernel), List.mem_of_getElem? (i := 641) (by decide +kernel)⟩
theorem lw_p59 : lw_okq (⟨"HedgeChainsModel", "isChain", "(II)Z"⟩, 11) := ⟨⟨by decide +kernel, by decide +kernel⟩, List.mem_of_getElem? (i := 634) (by decide +kernel), List.mem_of_getElem? (i := 682) (by decide +kernel), List.mem_of_getElem? (i := 683) (by decide +kernel)⟩
theorem lw_p60 : lw_okq (⟨"HedgeChainsModel", "isClosed", "(I)Z"⟩, 11) := ⟨⟨by decide +kernel, by decide +kernel⟩, List.mem_of_getElem? (i := 634) (by decide +kernel), List.mem_of_getElem? (i := 692) (by decide +kernel), List.mem_of_getElem? (i := 693) (by decide +kernel)⟩
theorem lw_p61 : lw_okq (⟨"HedgeChainsModel", "canLay", "(II)Z"⟩, 11) := ⟨⟨by decide +kernel, by decide +kernel⟩, List.mem_of_getElem? (i := 634) (by decide +kernel), List.mem_of_getElem? (i := 696) (by decide +kernel), List.mem_of_getElem? (i := 697) (by decide +kernel)⟩
theorem lw_p62 : lw_okq (⟨"HedgeChainsModel", "thickness", "(II)I"⟩, 11) := ⟨⟨by decide +kernel, by decide +kernel⟩, List.mem_of_getElem? (i := 634) (by decide +kernel), List.mem_of_getElem? (i := 700) (by decide +kernel), List.mem_of_getElem? (i := 701) (by decide +kernel)⟩
theorem lw_p63 : lw_okq (⟨"HedgeChainsModel", "kindOf", "(II)I"⟩, 11) := ⟨⟨by decide +kernel, by decide +kernel⟩, List.mem_of_getElem? (i := 634) (by decide +kernel), List.mem_of_getElem? (i := 704) (by decide +kernel), List.mem_of_getElem? (i := 705) (by decide +kernel)⟩
def lw_privs_4 : List (MethodName × Nat) := [(⟨"HedgeChains$Hedge", "stakesToCut", "()I"⟩, 4), (⟨"HedgeChains$Land", "weeksUntilLaid", "(I)I"⟩, 14), (⟨"HedgeChains$Land", "workAfter", "(I)I"⟩, 14), (⟨"HedgeChains$Orders", "reckon", "(LHedgeChains$Land;)V"⟩, 6), (⟨"HedgeChains$Orders", "lookAt", "(LHedgeChains$Land;)V"⟩, 6), (⟨"HedgeChains$Land", "weeksOfWork", "(I)I"⟩, 14), (⟨"HedgeChains$Orders", "leastOf", "(I)I"⟩, 6), (⟨"HedgeChains$Orders", "finesIfNext", "(II)I"⟩, 6), (⟨"HedgeChains$Orders", "leastFines", "()I"⟩, 6), (⟨"HedgeChains$Orders", "firstField", "()I"⟩, 6), (⟨"HedgeChainsModel", "lays", "(IIII)V"⟩, 11), (⟨"HedgeChainsModel", "isChain", "(II)Z"⟩, 11), (⟨"HedgeChainsModel", "isClosed", "(I)Z"⟩, 11), (⟨"HedgeChainsModel", "canLay", "(II)Z"⟩, 11), (⟨"HedgeChainsModel", "thickness", "(II)I"⟩, 11), (⟨"HedgeChainsModel", "kindOf", "(II)I"⟩, 11)]
theorem lw_r4 : ∀ q ∈ lw_privs_4, lw_okq q := List.forall_mem_cons.mpr ⟨lw_p48, List.forall_mem_cons.mpr ⟨lw_p49, List.forall_mem_cons.mpr ⟨lw_p50, List.forall_mem_cons.mpr ⟨lw_p51, List.forall_mem_cons.mpr ⟨lw_p52, List.forall_mem_cons.mpr ⟨lw_p53, List.forall_mem_cons.mpr ⟨lw_p54, List.forall_mem_cons.mpr ⟨lw_p55, List.forall_mem_cons.mpr ⟨lw_p56, List.forall_mem_cons.mpr ⟨lw_p57, List.forall_mem_cons.mpr ⟨lw_p58, List.forall_mem_cons.mpr ⟨lw_p59, List.forall_mem_cons.mpr ⟨lw_p60, List.forall_mem_cons.mpr ⟨lw_p61, List.forall_mem_cons.mpr ⟨lw_p62, List.forall_mem_cons.mpr ⟨lw_p63, fun _ h => absurd h List.not_mem_nil⟩⟩⟩⟩⟩⟩⟩⟩⟩⟩⟩⟩⟩⟩⟩⟩
theorem lw_p64 : lw_okq (⟨"HedgeChainsModel", "keeps", "()V"⟩, 11) := ⟨⟨by decide +kernel, by decide +kernel⟩, List.mem_of_getElem? (i := 634) (by decide +kernel), List.mem_of_getElem? (i := 708) (by decide +kernel), List.mem_of_getElem? (i := 709) (by decide +kernel)⟩
theorem lw_p65 : lw_okq (⟨"HedgeChainsModel", "con", "(II)I"⟩, 11) := ⟨⟨by decide +kernel, by decide +kernel⟩, List.mem_of_getElem? (i := 634) (by decide +kernel), List.mem_of_getElem? (i := 712) (by decide +kernel), List.mem_of_getElem? (i := 713) (by decide +kernel)⟩
theorem lw_p66 : lw_okq (⟨"HedgeChainsModel", "ends", "(I)V"⟩, 11) := ⟨⟨by decide +kernel, by decide +kernel⟩, List.mem_of_getElem? (i := 634) (by decide +kernel), List.mem_of_getElem? (i := 716) (by decide +kernel), List.mem_of_getElem? (i := 717) (by decide +kernel)⟩
theorem lw_p67 : lw_okq (⟨"HedgeChainsModel", "ofKind", "(II)I"⟩, 11) := ⟨⟨by decide +kernel, by decide +kernel⟩, List.mem_of_getElem? (i := 634) (by decide +kernel), List.mem_of_getElem? (i := 720) (by decide +kernel), List.mem_of_getElem? (i := 721) (by decide +kernel)⟩
theorem lw_p68 : lw_okq (⟨"HedgeChainsModel", "acted", "(I)I"⟩, 11) := ⟨⟨by decide +kernel, by decide +kernel⟩, List.mem_of_getElem? (i := 634) (by decide +kernel), List.mem_of_getElem? (i := 724) (by decide +kernel), List.mem_of_getElem? (i := 725) (by decide +kernel)⟩
theorem lw_p69 : lw_okq (⟨"HedgeChainsModel", "passesOne", "()I"⟩, 11) := ⟨⟨by decide +kernel, by decide +kernel⟩, List.mem_of_getElem? (i := 634) (by decide +kernel), List.mem_of_getElem? (i := 744) (by decide +kernel), List.mem_of_getElem? (i := 745) (by decide +kernel)⟩
theorem lw_p70 : lw_okq (⟨"HedgeChainsModel", "grows", "(II)V"⟩, 11) := ⟨⟨by decide +kernel, by decide +kernel⟩, List.mem_of_getElem? (i := 634) (by decide +kernel), List.mem_of_getElem? (i := 748) (by decide +kernel), List.mem_of_getElem? (i := 749) (by decide +kernel)⟩
theorem lw_p71 : lw_okq (⟨"HedgeChainsModel", "age", "(II)I"⟩, 11) := ⟨⟨by decide +kernel, by decide +kernel⟩, List.mem_of_getElem? (i := 634) (by decide +kernel), List.mem_of_getElem? (i := 752) (by decide +kernel), List.mem_of_getElem? (i := 753) (by decide +kernel)⟩
theorem lw_p72 : lw_okq (⟨"HedgeChainsModel", "pays", "(I)V"⟩, 11) := ⟨⟨by decide +kernel, by decide +kernel⟩, List.mem_of_getElem? (i := 634) (by decide +kernel), List.mem_of_getElem? (i := 756) (by decide +kernel), List.mem_of_getElem? (i := 757) (by decide +kernel)⟩
theorem lw_p73 : lw_okq (⟨"HedgeChainsModel", "chains", "()I"⟩, 11) := ⟨⟨by decide +kernel, by decide +kernel⟩, List.mem_of_getElem? (i := 634) (by decide +kernel), List.mem_of_getElem? (i := 800) (by decide +kernel), List.mem_of_getElem? (i := 801) (by decide +kernel)⟩
theorem lw_p74 : lw_okq (⟨"HedgeChainsModel", "readsPart", "()Z"⟩, 11) := ⟨⟨by decide +kernel, by decide +kernel⟩, List.mem_of_getElem? (i := 634) (by decide +kernel), List.mem_of_getElem? (i := 804) (by decide +kernel), List.mem_of_getElem? (i := 805) (by decide +kernel)⟩
theorem lw_p75 : lw_okq (⟨"HedgeChainsModel", "sign", "()I"⟩, 11) := ⟨⟨by decide +kernel, by decide +kernel⟩, List.mem_of_getElem? (i := 634) (by decide +kernel), List.mem_of_getElem? (i := 808) (by decide +kernel), List.mem_of_getElem? (i := 809) (by decide +kernel)⟩
theorem lw_p76 : lw_okq (⟨"HedgeChainsModel", "contracts", "()I"⟩, 11) := ⟨⟨by decide +kernel, by decide +kernel⟩, List.mem_of_getElem? (i := 634) (by decide +kernel), List.mem_of_getElem? (i := 816) (by decide +kernel), List.mem_of_getElem? (i := 817) (by decide +kernel)⟩
theorem lw_p77 : lw_okq (⟨"HedgeChainsModel", "longest", "(I)I"⟩, 11) := ⟨⟨by decide +kernel, by decide +kernel⟩, List.mem_of_getElem? (i := 634) (by decide +kernel), List.mem_of_getElem? (i := 824) (by decide +kernel), List.mem_of_getElem? (i := 825) (by decide +kernel)⟩
theorem lw_p78 : lw_okq (⟨"HedgeChainsModel", "takes", "(II)I"⟩, 11) := ⟨⟨by decide +kernel, by decide +kernel⟩, List.mem_of_getElem? (i := 634) (by decide +kernel), List.mem_of_getElem? (i := 836) (by decide +kernel), List.mem_of_getElem? (i := 837) (by decide +kernel)⟩
theorem lw_p79 : lw_okq (⟨"HedgeChainsModel", "workOf", "(I)I"⟩, 11) := ⟨⟨by decide +kernel, by decide +kernel⟩, List.mem_of_getElem? (i := 634) (by decide +kernel), List.mem_of_getElem? (i := 840) (by decide +kernel), List.mem_of_getElem? (i := 841) (by decide +kernel)⟩
def lw_privs_5 : List (MethodName × Nat) := [(⟨"HedgeChainsModel", "keeps", "()V"⟩, 11), (⟨"HedgeChainsModel", "con", "(II)I"⟩, 11), (⟨"HedgeChainsModel", "ends", "(I)V"⟩, 11), (⟨"HedgeChainsModel", "ofKind", "(II)I"⟩, 11), (⟨"HedgeChainsModel", "acted", "(I)I"⟩, 11), (⟨"HedgeChainsModel", "passesOne", "()I"⟩, 11), (⟨"HedgeChainsModel", "grows", "(II)V"⟩, 11), (⟨"HedgeChainsModel", "age", "(II)I"⟩, 11), (⟨"HedgeChainsModel", "pays", "(I)V"⟩, 11), (⟨"HedgeChainsModel", "chains", "()I"⟩, 11), (⟨"HedgeChainsModel", "readsPart", "()Z"⟩, 11), (⟨"HedgeChainsModel", "sign", "()I"⟩, 11), (⟨"HedgeChainsModel", "contracts", "()I"⟩, 11), (⟨"HedgeChainsModel", "longest", "(I)I"⟩, 11), (⟨"HedgeChainsModel", "takes", "(II)I"⟩, 11), (⟨"HedgeChainsModel", "workOf", "(I)I"⟩, 11)]
theorem lw_r5 : ∀ q ∈ lw_privs_5, lw_okq q := List.forall_mem_cons.mpr ⟨lw_p64, List.forall_mem_cons.mpr ⟨lw_p65, List.forall_mem_cons.mpr ⟨lw_p66, List.forall_mem_cons.mpr ⟨lw_p67, List.forall_mem_cons.mpr ⟨lw_p68, List.forall_mem_cons.mpr ⟨lw_p69, List.forall_mem_cons.mpr ⟨lw_p70, List.forall_mem_cons.mpr ⟨lw_p71, List.forall_mem_cons.mpr ⟨lw_p72, List.forall_mem_cons.mpr ⟨lw_p73, List.forall_mem_cons.mpr ⟨lw_p74, List.forall_mem_cons.mpr ⟨lw_p75, List.forall_mem_cons.mpr ⟨lw_p76, List.forall_mem_cons.mpr ⟨lw_p77, List.forall_mem_cons.mpr ⟨lw_p78, List.forall_mem_cons.mpr ⟨lw_p79, fun _ h => absurd h List.not_mem_nil⟩⟩⟩⟩⟩⟩⟩⟩⟩⟩⟩⟩⟩⟩⟩⟩
theorem lw_p80 : lw_okq (⟨"HedgeChainsModel", "costs", "(II)I"⟩, 11) := ⟨⟨by decide +kernel, by decide +kernel⟩, List.mem_of_getElem? (i := 634) (by decide +kernel), List.mem_of_getElem? (i := 856) (by decide +kernel), List.mem_of_getElem? (i := 857) (by decide +kernel)⟩
theorem lw_p81 : lw_okq (⟨"HedgeChainsModel", "weeksOf", "(I)I"⟩, 11) := ⟨⟨by decide +kernel, by decide +kernel⟩, List.mem_of_getElem? (i := 634) (by decide +kernel), List.mem_of_getElem? (i := 860) (by decide +kernel), List.mem_of_getElem? (i := 861) (by decide +kernel)⟩
def lw_privs_6 : List (MethodName × Nat) := [(⟨"HedgeChainsModel", "costs", "(II)I"⟩, 11), (⟨"HedgeChainsModel", "weeksOf", "(I)I"⟩, 11)]
theorem lw_r6 : ∀ q ∈ lw_privs_6, lw_okq q := List.forall_mem_cons.mpr ⟨lw_p80, List.forall_mem_cons.mpr ⟨lw_p81, fun _ h => absurd h List.not_mem_nil⟩⟩
def lw_privs : List (MethodName × Nat) := lw_privs_1 ++ (lw_privs_2 ++ (lw_privs_3 ++ (lw_privs_4 ++ (lw_privs_5 ++ (lw_privs_6)))))
def lw_tbl : List Cond := k2_sels lw_privs ++ tables_1
theorem lw_privs_ok : ∀ q ∈ lw_privs, lw_okq q := by
  show ∀ q ∈ lw_privs_1 ++ (lw_privs_2 ++ (lw_privs_3 ++ (lw_privs_4 ++ (lw_privs_5 ++ (lw_privs_6))))), lw_okq q
  exact List.forall_mem_append.mpr ⟨lw_r1, List.forall_mem_append.mpr ⟨lw_r2, List.forall_mem_append.mpr ⟨lw_r3, List.forall_mem_append.mpr ⟨lw_r4, List.forall_mem_append.mpr ⟨lw_r5, lw_r6⟩⟩⟩⟩⟩
end
section
def RX0 : String := "HedgeChains$Contract"
def TX0 : u_T := fun k => match k with
  | 0 => ("HedgeChains$Contract", "made", "Z", false)
  | 1 => ("HedgeChains$Contract", "price", "I", false)
  | 2 => ("HedgeChains$Contract", "lastWeek", "I", false)
  | _ => ("HedgeChains$Contract", "fine", "I", false)
def tyX0 : Nat → FieldType := fun k => match k with
  | 0 => .boolean
  | 1 => .int
  | 2 => .int
  | _ => .int
abbrev wsX00 : List Cond := u_ws RX0 TX0 4
theorem nmX0 : ∀ a, a < 4 → ∀ b, b < 4 → a ≠ b → (TX0 a).2.1 ≠ (TX0 b).2.1 := by decide +kernel
theorem tyX0_ok : ∀ k, k < 4 → parseFieldDescriptor (TX0 k).2.2.1 = some (tyX0 k) := by decide +kernel
abbrev cX0_init : ByteArray := prog_2_method_1_code
def yX0_init : MethodName := ⟨RX0, "<init>", "()V"⟩
abbrev cX0_copyFrom : ByteArray := prog_2_method_2_code
def yX0_copyFrom : MethodName := ⟨RX0, "copyFrom", "(LHedgeChains$Contract;)V"⟩
abbrev cX0_make : ByteArray := prog_2_method_3_code
def yX0_make : MethodName := ⟨RX0, "make", "(III)V"⟩
def RX1 : String := "HedgeChains$Hedge"
def TX1 : u_T := fun k => match k with
  | 0 => ("HedgeChains$Hedge", "kinds", "[I", true)
  | 1 => ("HedgeChains$Hedge", "thicknesses", "[I", true)
  | 2 => ("HedgeChains$Hedge", "ages", "[I", true)
  | _ => ("HedgeChains$Hedge", "length", "I", false)
def tyX1 : Nat → FieldType := fun k => match k with
  | 0 => .array .int
  | 1 => .array .int
  | 2 => .array .int
  | _ => .int
abbrev wsX10 : List Cond := u_ws RX1 TX1 4
theorem nmX1 : ∀ a, a < 4 → ∀ b, b < 4 → a ≠ b → (TX1 a).2.1 ≠ (TX1 b).2.1 := by decide +kernel
theorem tyX1_ok : ∀ k, k < 4 → parseFieldDescriptor (TX1 k).2.2.1 = some (tyX1 k) := by decide +kernel
abbrev cX1_init : ByteArray := prog_3_method_1_code
def yX1_init : MethodName := ⟨RX1, "<init>", "()V"⟩
abbrev cX1_copyFrom : ByteArray := prog_3_method_2_code
def yX1_copyFrom : MethodName := ⟨RX1, "copyFrom", "(LHedgeChains$Hedge;)V"⟩
abbrev cX1_addChains : ByteArray := prog_3_method_3_code
def yX1_addChains : MethodName := ⟨RX1, "addChains", "(III)V"⟩
abbrev cX1_changeChain : ByteArray := prog_3_method_4_code
def yX1_changeChain : MethodName := ⟨RX1, "changeChain", "(III)V"⟩
abbrev cX1_has : ByteArray := prog_3_method_5_code
def yX1_has : MethodName := ⟨RX1, "has", "(I)Z"⟩
abbrev cX1_kindOf : ByteArray := prog_3_method_6_code
def yX1_kindOf : MethodName := ⟨RX1, "kindOf", "(I)I"⟩
abbrev cX1_thicknessOf : ByteArray := prog_3_method_7_code
def yX1_thicknessOf : MethodName := ⟨RX1, "thicknessOf", "(I)I"⟩
abbrev cX1_ageOf : ByteArray := prog_3_method_8_code
def yX1_ageOf : MethodName := ⟨RX1, "ageOf", "(I)I"⟩
abbrev cX1_isToLay : ByteArray := prog_3_method_9_code
def yX1_isToLay : MethodName := ⟨RX1, "isToLay", "(I)Z"⟩
abbrev cX1_isToCut : ByteArray := prog_3_method_10_code
def yX1_isToCut : MethodName := ⟨RX1, "isToCut", "(I)Z"⟩
abbrev cX1_numberOf : ByteArray := prog_3_method_11_code
def yX1_numberOf : MethodName := ⟨RX1, "numberOf", "(I)I"⟩
abbrev cX1_longestRunBegin : ByteArray := prog_3_method_12_code
def yX1_longestRunBegin : MethodName := ⟨RX1, "longestRunBegin", "()I"⟩
abbrev cX1_runFrom : ByteArray := prog_3_method_13_code
def yX1_runFrom : MethodName := ⟨RX1, "runFrom", "(I)I"⟩
abbrev cX1_grow : ByteArray := prog_3_method_14_code
def yX1_grow : MethodName := ⟨RX1, "grow", "(I)V"⟩
abbrev cX1_growOlder : ByteArray := prog_3_method_15_code
def yX1_growOlder : MethodName := ⟨RX1, "growOlder", "(I)V"⟩
abbrev cX1_growLaid : ByteArray := prog_3_method_16_code
def yX1_growLaid : MethodName := ⟨RX1, "growLaid", "(I)V"⟩
abbrev cX1_workToLay : ByteArray := prog_3_method_17_code
def yX1_workToLay : MethodName := ⟨RX1, "workToLay", "()I"⟩
abbrev cX1_stakesToLay : ByteArray := prog_3_method_18_code
def yX1_stakesToLay : MethodName := ⟨RX1, "stakesToLay", "()I"⟩
abbrev cX1_stakesToCut : ByteArray := prog_3_method_19_code
def yX1_stakesToCut : MethodName := ⟨RX1, "stakesToCut", "()I"⟩
abbrev cX1_stakesOf : ByteArray := prog_3_method_20_code
def yX1_stakesOf : MethodName := ⟨RX1, "stakesOf", "(I)I"⟩
def RX2 : String := "HedgeChains$HedgeReader"
def TX2 : u_T := fun k => match k with
  | 0 => ("HedgeChains$HedgeReader", "hedge", "LHedgeChains$Hedge;", true)
  | 1 => ("HedgeChains$HedgeReader", "told", "I", false)
  | _ => ("HedgeChains$HedgeReader", "at", "I", false)
def tyX2 : Nat → FieldType := fun k => match k with
  | 0 => .object "HedgeChains$Hedge"
  | 1 => .int
  | _ => .int
abbrev wsX20 : List Cond := u_ws RX2 TX2 3
theorem nmX2 : ∀ a, a < 3 → ∀ b, b < 3 → a ≠ b → (TX2 a).2.1 ≠ (TX2 b).2.1 := by decide +kernel
theorem tyX2_ok : ∀ k, k < 3 → parseFieldDescriptor (TX2 k).2.2.1 = some (tyX2 k) := by decide +kernel
abbrev cX2_init : ByteArray := prog_4_method_1_code
def yX2_init : MethodName := ⟨RX2, "<init>", "()V"⟩
abbrev cX2_faultOf : ByteArray := prog_4_method_2_code
def yX2_faultOf : MethodName := ⟨RX2, "faultOf", "(LHedgeChains$Text;)I"⟩
abbrev cX2_readPart : ByteArray := prog_4_method_3_code
def yX2_readPart : MethodName := ⟨RX2, "readPart", "(LHedgeChains$Text;)Z"⟩
abbrev cX2_readNumber : ByteArray := prog_4_method_4_code
def yX2_readNumber : MethodName := ⟨RX2, "readNumber", "(LHedgeChains$Text;)I"⟩
abbrev cX2_kindFor : ByteArray := prog_4_method_5_code
def yX2_kindFor : MethodName := ⟨RX2, "kindFor", "(C)I"⟩
abbrev cX2_digitFor : ByteArray := prog_4_method_6_code
def yX2_digitFor : MethodName := ⟨RX2, "digitFor", "(C)I"⟩
def RX3 : String := "HedgeChains$History"
def TX3 : u_T := fun k => match k with
  | 0 => ("HedgeChains$History", "states", "[LHedgeChains$State;", true)
  | 1 => ("HedgeChains$History", "next", "I", false)
  | _ => ("HedgeChains$History", "kept", "I", false)
def tyX3 : Nat → FieldType := fun k => match k with
  | 0 => .array (.object "HedgeChains$State")
  | 1 => .int
  | _ => .int
abbrev wsX30 : List Cond := u_ws RX3 TX3 3
theorem nmX3 : ∀ a, a < 3 → ∀ b, b < 3 → a ≠ b → (TX3 a).2.1 ≠ (TX3 b).2.1 := by decide +kernel
theorem tyX3_ok : ∀ k, k < 3 → parseFieldDescriptor (TX3 k).2.2.1 = some (tyX3 k) := by decide +kernel
abbrev cX3_init : ByteArray := prog_5_method_1_code
def yX3_init : MethodName := ⟨RX3, "<init>", "()V"⟩
abbrev cX3_keep : ByteArray := prog_5_method_2_code
def yX3_keep : MethodName := ⟨RX3, "keep", "(LHedgeChains$State;)V"⟩
abbrev cX3_bringBack : ByteArray := prog_5_method_3_code
def yX3_bringBack : MethodName := ⟨RX3, "bringBack", "(LHedgeChains$State;)V"⟩
def RX4 : String := "HedgeChains$Land"
def TX4 : u_T := fun k => match k with
  | 0 => ("HedgeChains$Land", "hedges", "[LHedgeChains$Hedge;", true)
  | 1 => ("HedgeChains$Land", "contracts", "[LHedgeChains$Contract;", true)
  | 2 => ("HedgeChains$Land", "week", "I", false)
  | 3 => ("HedgeChains$Land", "firstClosed", "I", false)
  | 4 => ("HedgeChains$Land", "lastClosed", "I", false)
  | 5 => ("HedgeChains$Land", "strength", "I", false)
  | 6 => ("HedgeChains$Land", "work", "I", false)
  | 7 => ("HedgeChains$Land", "stakes", "I", false)
  | 8 => ("HedgeChains$Land", "purse", "I", false)
  | 9 => ("HedgeChains$Land", "debt", "I", false)
  | 10 => ("HedgeChains$Land", "earned", "I", false)
  | 11 => ("HedgeChains$Land", "fined", "I", false)
  | 12 => ("HedgeChains$Land", "laid", "I", false)
  | _ => ("HedgeChains$Land", "planted", "I", false)
def tyX4 : Nat → FieldType := fun k => match k with
  | 0 => .array (.object "HedgeChains$Hedge")
  | 1 => .array (.object "HedgeChains$Contract")
  | 2 => .int
  | 3 => .int
  | 4 => .int
  | 5 => .int
  | 6 => .int
  | 7 => .int
  | 8 => .int
  | 9 => .int
  | 10 => .int
  | 11 => .int
  | 12 => .int
  | _ => .int
abbrev wsX40 : List Cond := u_ws RX4 TX4 14
theorem nmX4 : ∀ a, a < 14 → ∀ b, b < 14 → a ≠ b → (TX4 a).2.1 ≠ (TX4 b).2.1 := by decide +kernel
theorem tyX4_ok : ∀ k, k < 14 → parseFieldDescriptor (TX4 k).2.2.1 = some (tyX4 k) := by decide +kernel
abbrev cX4_init : ByteArray := prog_6_method_1_code
def yX4_init : MethodName := ⟨RX4, "<init>", "()V"⟩
abbrev cX4_copyFrom : ByteArray := prog_6_method_2_code
def yX4_copyFrom : MethodName := ⟨RX4, "copyFrom", "(LHedgeChains$Land;)V"⟩
abbrev cX4_isClosed : ByteArray := prog_6_method_3_code
def yX4_isClosed : MethodName := ⟨RX4, "isClosed", "(I)Z"⟩
abbrev cX4_canLay : ByteArray := prog_6_method_4_code
def yX4_canLay : MethodName := ⟨RX4, "canLay", "(II)Z"⟩
abbrev cX4_layChain : ByteArray := prog_6_method_5_code
def yX4_layChain : MethodName := ⟨RX4, "layChain", "(II)V"⟩
abbrev cX4_canCut : ByteArray := prog_6_method_6_code
def yX4_canCut : MethodName := ⟨RX4, "canCut", "(II)Z"⟩
abbrev cX4_cutChain : ByteArray := prog_6_method_7_code
def yX4_cutChain : MethodName := ⟨RX4, "cutChain", "(II)V"⟩
abbrev cX4_canPlant : ByteArray := prog_6_method_8_code
def yX4_canPlant : MethodName := ⟨RX4, "canPlant", "(II)Z"⟩
abbrev cX4_plantChain : ByteArray := prog_6_method_9_code
def yX4_plantChain : MethodName := ⟨RX4, "plantChain", "(II)V"⟩
abbrev cX4_grubChain : ByteArray := prog_6_method_10_code
def yX4_grubChain : MethodName := ⟨RX4, "grubChain", "(II)V"⟩
abbrev cX4_replaceHedge : ByteArray := prog_6_method_11_code
def yX4_replaceHedge : MethodName := ⟨RX4, "replaceHedge", "(ILHedgeChains$Hedge;)V"⟩
abbrev cX4_endContractIfNoneStands : ByteArray := prog_6_method_12_code
def yX4_endContractIfNoneStands : MethodName := ⟨RX4, "endContractIfNoneStands", "(I)V"⟩
abbrev cX4_numberOfContracts : ByteArray := prog_6_method_13_code
def yX4_numberOfContracts : MethodName := ⟨RX4, "numberOfContracts", "()I"⟩
abbrev cX4_passWeek : ByteArray := prog_6_method_14_code
def yX4_passWeek : MethodName := ⟨RX4, "passWeek", "()I"⟩
abbrev cX4_finesDue : ByteArray := prog_6_method_15_code
def yX4_finesDue : MethodName := ⟨RX4, "finesDue", "()I"⟩
abbrev cX4_finePerWeek : ByteArray := prog_6_method_16_code
def yX4_finePerWeek : MethodName := ⟨RX4, "finePerWeek", "(I)I"⟩
abbrev cX4_spend : ByteArray := prog_6_method_17_code
def yX4_spend : MethodName := ⟨RX4, "spend", "(I)V"⟩
abbrev cX4_settingOf : ByteArray := prog_6_method_18_code
def yX4_settingOf : MethodName := ⟨RX4, "settingOf", "(I)I"⟩
abbrev cX4_changeSetting : ByteArray := prog_6_method_19_code
def yX4_changeSetting : MethodName := ⟨RX4, "changeSetting", "(II)V"⟩
abbrev cX4_weeksUntilLaid : ByteArray := prog_6_method_20_code
def yX4_weeksUntilLaid : MethodName := ⟨RX4, "weeksUntilLaid", "(I)I"⟩
abbrev cX4_workAfter : ByteArray := prog_6_method_21_code
def yX4_workAfter : MethodName := ⟨RX4, "workAfter", "(I)I"⟩
abbrev cX4_weeksOfWork : ByteArray := prog_6_method_22_code
def yX4_weeksOfWork : MethodName := ⟨RX4, "weeksOfWork", "(I)I"⟩
def RX5 : String := "HedgeChains$Orders"
def TX5 : u_T := fun k => match k with
  | 0 => ("HedgeChains$Orders", "weeks", "[I", true)
  | 1 => ("HedgeChains$Orders", "lastWeeks", "[I", true)
  | 2 => ("HedgeChains$Orders", "finesPerWeek", "[I", true)
  | 3 => ("HedgeChains$Orders", "least", "[I", true)
  | 4 => ("HedgeChains$Orders", "all", "I", false)
  | _ => ("HedgeChains$Orders", "presentWeek", "I", false)
def tyX5 : Nat → FieldType := fun k => match k with
  | 0 => .array .int
  | 1 => .array .int
  | 2 => .array .int
  | 3 => .array .int
  | 4 => .int
  | _ => .int
abbrev wsX50 : List Cond := u_ws RX5 TX5 6
theorem nmX5 : ∀ a, a < 6 → ∀ b, b < 6 → a ≠ b → (TX5 a).2.1 ≠ (TX5 b).2.1 := by decide +kernel
theorem tyX5_ok : ∀ k, k < 6 → parseFieldDescriptor (TX5 k).2.2.1 = some (tyX5 k) := by decide +kernel
abbrev cX5_init : ByteArray := prog_7_method_1_code
def yX5_init : MethodName := ⟨RX5, "<init>", "()V"⟩
abbrev cX5_reckon : ByteArray := prog_7_method_2_code
def yX5_reckon : MethodName := ⟨RX5, "reckon", "(LHedgeChains$Land;)V"⟩
abbrev cX5_lookAt : ByteArray := prog_7_method_3_code
def yX5_lookAt : MethodName := ⟨RX5, "lookAt", "(LHedgeChains$Land;)V"⟩
abbrev cX5_leastOf : ByteArray := prog_7_method_4_code
def yX5_leastOf : MethodName := ⟨RX5, "leastOf", "(I)I"⟩
abbrev cX5_finesIfNext : ByteArray := prog_7_method_5_code
def yX5_finesIfNext : MethodName := ⟨RX5, "finesIfNext", "(II)I"⟩
abbrev cX5_isIn : ByteArray := prog_7_method_6_code
def yX5_isIn : MethodName := ⟨RX5, "isIn", "(II)Z"⟩
abbrev cX5_leastFines : ByteArray := prog_7_method_7_code
def yX5_leastFines : MethodName := ⟨RX5, "leastFines", "()I"⟩
abbrev cX5_firstField : ByteArray := prog_7_method_8_code
def yX5_firstField : MethodName := ⟨RX5, "firstField", "()I"⟩
def RX6 : String := "HedgeChains$State"
def TX6 : u_T := fun k => match k with
  | 0 => ("HedgeChains$State", "land", "LHedgeChains$Land;", true)
  | 1 => ("HedgeChains$State", "slots", "[LHedgeChains$Land;", true)
  | _ => ("HedgeChains$State", "filled", "[Z", true)
def tyX6 : Nat → FieldType := fun k => match k with
  | 0 => .object "HedgeChains$Land"
  | 1 => .array (.object "HedgeChains$Land")
  | _ => .array .boolean
abbrev wsX60 : List Cond := u_ws RX6 TX6 3
theorem nmX6 : ∀ a, a < 3 → ∀ b, b < 3 → a ≠ b → (TX6 a).2.1 ≠ (TX6 b).2.1 := by decide +kernel
theorem tyX6_ok : ∀ k, k < 3 → parseFieldDescriptor (TX6 k).2.2.1 = some (tyX6 k) := by decide +kernel
abbrev cX6_init : ByteArray := prog_8_method_1_code
def yX6_init : MethodName := ⟨RX6, "<init>", "()V"⟩
abbrev cX6_copyFrom : ByteArray := prog_8_method_2_code
def yX6_copyFrom : MethodName := ⟨RX6, "copyFrom", "(LHedgeChains$State;)V"⟩
abbrev cX6_fillSlot : ByteArray := prog_8_method_3_code
def yX6_fillSlot : MethodName := ⟨RX6, "fillSlot", "(I)V"⟩
abbrev cX6_numberOfSnapshots : ByteArray := prog_8_method_4_code
def yX6_numberOfSnapshots : MethodName := ⟨RX6, "numberOfSnapshots", "()I"⟩
def RX7 : String := "HedgeChains$Text"
def TX7 : u_T := fun k => match k with
  | 0 => ("HedgeChains$Text", "signs", "[C", true)
  | _ => ("HedgeChains$Text", "length", "I", false)
def tyX7 : Nat → FieldType := fun k => match k with
  | 0 => .array .char
  | _ => .int
abbrev wsX70 : List Cond := u_ws RX7 TX7 2
theorem nmX7 : ∀ a, a < 2 → ∀ b, b < 2 → a ≠ b → (TX7 a).2.1 ≠ (TX7 b).2.1 := by decide +kernel
theorem tyX7_ok : ∀ k, k < 2 → parseFieldDescriptor (TX7 k).2.2.1 = some (tyX7 k) := by decide +kernel
abbrev cX7_init : ByteArray := prog_9_method_1_code
def yX7_init : MethodName := ⟨RX7, "<init>", "()V"⟩
abbrev cX7_addSign : ByteArray := prog_9_method_2_code
def yX7_addSign : MethodName := ⟨RX7, "addSign", "(C)V"⟩
abbrev cX7_signAt : ByteArray := prog_9_method_3_code
def yX7_signAt : MethodName := ⟨RX7, "signAt", "(I)C"⟩
def RX8 : String := "HedgeChains"
def TX8 : u_T := fun k => match k with
  | 0 => ("HedgeChains", "state", "LHedgeChains$State;", true)
  | 1 => ("HedgeChains", "land", "LHedgeChains$Land;", true)
  | 2 => ("HedgeChains", "history", "LHedgeChains$History;", true)
  | 3 => ("HedgeChains", "text", "LHedgeChains$Text;", true)
  | 4 => ("HedgeChains", "reader", "LHedgeChains$HedgeReader;", true)
  | _ => ("HedgeChains", "orders", "LHedgeChains$Orders;", true)
def tyX8 : Nat → FieldType := fun k => match k with
  | 0 => .object "HedgeChains$State"
  | 1 => .object "HedgeChains$Land"
  | 2 => .object "HedgeChains$History"
  | 3 => .object "HedgeChains$Text"
  | 4 => .object "HedgeChains$HedgeReader"
  | _ => .object "HedgeChains$Orders"
abbrev wsX80 : List Cond := u_ws RX8 TX8 6
theorem nmX8 : ∀ a, a < 6 → ∀ b, b < 6 → a ≠ b → (TX8 a).2.1 ≠ (TX8 b).2.1 := by decide +kernel
theorem tyX8_ok : ∀ k, k < 6 → parseFieldDescriptor (TX8 k).2.2.1 = some (tyX8 k) := by decide +kernel
abbrev cX8_init : ByteArray := prog_1_method_1_code
def yX8_init : MethodName := ⟨RX8, "<init>", "()V"⟩
abbrev cX8_lay : ByteArray := prog_1_method_2_code
def yX8_lay : MethodName := ⟨RX8, "lay", "(III)I"⟩
abbrev cX8_cut : ByteArray := prog_1_method_3_code
def yX8_cut : MethodName := ⟨RX8, "cut", "(II)I"⟩
abbrev cX8_plant : ByteArray := prog_1_method_4_code
def yX8_plant : MethodName := ⟨RX8, "plant", "(II)I"⟩
abbrev cX8_grub : ByteArray := prog_1_method_5_code
def yX8_grub : MethodName := ⟨RX8, "grub", "(II)I"⟩
abbrev cX8_pass : ByteArray := prog_1_method_6_code
def yX8_pass : MethodName := ⟨RX8, "pass", "(I)I"⟩
abbrev cX8_set : ByteArray := prog_1_method_7_code
def yX8_set : MethodName := ⟨RX8, "set", "(II)I"⟩
abbrev cX8_contract : ByteArray := prog_1_method_8_code
def yX8_contract : MethodName := ⟨RX8, "contract", "(IIII)I"⟩
abbrev cX8_giveBack : ByteArray := prog_1_method_9_code
def yX8_giveBack : MethodName := ⟨RX8, "giveBack", "(I)I"⟩
abbrev cX8_payDebt : ByteArray := prog_1_method_10_code
def yX8_payDebt : MethodName := ⟨RX8, "payDebt", "()I"⟩
abbrev cX8_take : ByteArray := prog_1_method_11_code
def yX8_take : MethodName := ⟨RX8, "take", "(I)I"⟩
abbrev cX8_restore : ByteArray := prog_1_method_12_code
def yX8_restore : MethodName := ⟨RX8, "restore", "(I)I"⟩
abbrev cX8_undo : ByteArray := prog_1_method_13_code
def yX8_undo : MethodName := ⟨RX8, "undo", "()I"⟩
abbrev cX8_append : ByteArray := prog_1_method_14_code
def yX8_append : MethodName := ⟨RX8, "append", "(I)I"⟩
abbrev cX8_clearText : ByteArray := prog_1_method_15_code
def yX8_clearText : MethodName := ⟨RX8, "clearText", "()I"⟩
abbrev cX8_read : ByteArray := prog_1_method_16_code
def yX8_read : MethodName := ⟨RX8, "read", "(I)I"⟩
abbrev cX8_count : ByteArray := prog_1_method_17_code
def yX8_count : MethodName := ⟨RX8, "count", "(I)I"⟩
abbrev cX8_field : ByteArray := prog_1_method_18_code
def yX8_field : MethodName := ⟨RX8, "field", "(II)I"⟩
abbrev cX8_chain : ByteArray := prog_1_method_19_code
def yX8_chain : MethodName := ⟨RX8, "chain", "(III)I"⟩
abbrev cX8_toLay : ByteArray := prog_1_method_20_code
def yX8_toLay : MethodName := ⟨RX8, "toLay", "(II)I"⟩
abbrev cX8_stakesIn : ByteArray := prog_1_method_21_code
def yX8_stakesIn : MethodName := ⟨RX8, "stakesIn", "(I)I"⟩
abbrev cX8_doneIn : ByteArray := prog_1_method_22_code
def yX8_doneIn : MethodName := ⟨RX8, "doneIn", "(I)I"⟩
abbrev cX8_bestOrder : ByteArray := prog_1_method_23_code
def yX8_bestOrder : MethodName := ⟨RX8, "bestOrder", "(I)I"⟩
abbrev cX8_isWithin : ByteArray := prog_1_method_24_code
def yX8_isWithin : MethodName := ⟨RX8, "isWithin", "(III)Z"⟩
abbrev cX8_isField : ByteArray := prog_1_method_25_code
def yX8_isField : MethodName := ⟨RX8, "isField", "(I)Z"⟩
abbrev cX8_isSlot : ByteArray := prog_1_method_26_code
def yX8_isSlot : MethodName := ⟨RX8, "isSlot", "(I)Z"⟩
abbrev cX8_isChain : ByteArray := prog_1_method_27_code
def yX8_isChain : MethodName := ⟨RX8, "isChain", "(II)Z"⟩
abbrev cX8_canBeSet : ByteArray := prog_1_method_28_code
def yX8_canBeSet : MethodName := ⟨RX8, "canBeSet", "(II)Z"⟩
def RX9 : String := "HedgeChainsModel"
def TX9 : u_T := fun k => match k with
  | 0 => ("HedgeChainsModel", "s", "[I", true)
  | 1 => ("HedgeChainsModel", "was", "[I", true)
  | 2 => ("HedgeChainsModel", "begun", "[I", true)
  | 3 => ("HedgeChainsModel", "least", "[I", true)
  | 4 => ("HedgeChainsModel", "states", "I", false)
  | 5 => ("HedgeChainsModel", "text", "[I", true)
  | 6 => ("HedgeChainsModel", "typed", "I", false)
  | 7 => ("HedgeChainsModel", "at", "I", false)
  | 8 => ("HedgeChainsModel", "kind", "I", false)
  | 9 => ("HedgeChainsModel", "thick", "I", false)
  | _ => ("HedgeChainsModel", "many", "I", false)
def tyX9 : Nat → FieldType := fun k => match k with
  | 0 => .array .int
  | 1 => .array .int
  | 2 => .array .int
  | 3 => .array .int
  | 4 => .int
  | 5 => .array .int
  | 6 => .int
  | 7 => .int
  | 8 => .int
  | 9 => .int
  | _ => .int
abbrev wsX90 : List Cond := u_ws RX9 TX9 11
theorem nmX9 : ∀ a, a < 11 → ∀ b, b < 11 → a ≠ b → (TX9 a).2.1 ≠ (TX9 b).2.1 := by decide +kernel
theorem tyX9_ok : ∀ k, k < 11 → parseFieldDescriptor (TX9 k).2.2.1 = some (tyX9 k) := by decide +kernel
abbrev cX9_init : ByteArray := prog_11_method_1_code
def yX9_init : MethodName := ⟨RX9, "<init>", "()V"⟩
abbrev cX9_in : ByteArray := prog_11_method_2_code
def yX9_in : MethodName := ⟨RX9, "in", "(III)Z"⟩
abbrev cX9_lays : ByteArray := prog_11_method_3_code
def yX9_lays : MethodName := ⟨RX9, "lays", "(IIII)V"⟩
abbrev cX9_kindOf : ByteArray := prog_11_method_4_code
def yX9_kindOf : MethodName := ⟨RX9, "kindOf", "(II)I"⟩
abbrev cX9_thickness : ByteArray := prog_11_method_5_code
def yX9_thickness : MethodName := ⟨RX9, "thickness", "(II)I"⟩
abbrev cX9_age : ByteArray := prog_11_method_6_code
def yX9_age : MethodName := ⟨RX9, "age", "(II)I"⟩
abbrev cX9_isField : ByteArray := prog_11_method_7_code
def yX9_isField : MethodName := ⟨RX9, "isField", "(I)Z"⟩
abbrev cX9_isChain : ByteArray := prog_11_method_8_code
def yX9_isChain : MethodName := ⟨RX9, "isChain", "(II)Z"⟩
abbrev cX9_ofKind : ByteArray := prog_11_method_9_code
def yX9_ofKind : MethodName := ⟨RX9, "ofKind", "(II)I"⟩
abbrev cX9_con : ByteArray := prog_11_method_10_code
def yX9_con : MethodName := ⟨RX9, "con", "(II)I"⟩
abbrev cX9_keeps : ByteArray := prog_11_method_11_code
def yX9_keeps : MethodName := ⟨RX9, "keeps", "()V"⟩
abbrev cX9_acted : ByteArray := prog_11_method_12_code
def yX9_acted : MethodName := ⟨RX9, "acted", "(I)I"⟩
abbrev cX9_isClosed : ByteArray := prog_11_method_13_code
def yX9_isClosed : MethodName := ⟨RX9, "isClosed", "(I)Z"⟩
abbrev cX9_ends : ByteArray := prog_11_method_14_code
def yX9_ends : MethodName := ⟨RX9, "ends", "(I)V"⟩
abbrev cX9_canLay : ByteArray := prog_11_method_15_code
def yX9_canLay : MethodName := ⟨RX9, "canLay", "(II)Z"⟩
abbrev cX9_lay : ByteArray := prog_11_method_16_code
def yX9_lay : MethodName := ⟨RX9, "lay", "(III)I"⟩
abbrev cX9_cut : ByteArray := prog_11_method_17_code
def yX9_cut : MethodName := ⟨RX9, "cut", "(II)I"⟩
abbrev cX9_plant : ByteArray := prog_11_method_18_code
def yX9_plant : MethodName := ⟨RX9, "plant", "(II)I"⟩
abbrev cX9_grub : ByteArray := prog_11_method_19_code
def yX9_grub : MethodName := ⟨RX9, "grub", "(II)I"⟩
abbrev cX9_grows : ByteArray := prog_11_method_20_code
def yX9_grows : MethodName := ⟨RX9, "grows", "(II)V"⟩
abbrev cX9_pays : ByteArray := prog_11_method_21_code
def yX9_pays : MethodName := ⟨RX9, "pays", "(I)V"⟩
abbrev cX9_passesOne : ByteArray := prog_11_method_22_code
def yX9_passesOne : MethodName := ⟨RX9, "passesOne", "()I"⟩
abbrev cX9_pass : ByteArray := prog_11_method_23_code
def yX9_pass : MethodName := ⟨RX9, "pass", "(I)I"⟩
abbrev cX9_set : ByteArray := prog_11_method_24_code
def yX9_set : MethodName := ⟨RX9, "set", "(II)I"⟩
abbrev cX9_contract : ByteArray := prog_11_method_25_code
def yX9_contract : MethodName := ⟨RX9, "contract", "(IIII)I"⟩
abbrev cX9_giveBack : ByteArray := prog_11_method_26_code
def yX9_giveBack : MethodName := ⟨RX9, "giveBack", "(I)I"⟩
abbrev cX9_payDebt : ByteArray := prog_11_method_27_code
def yX9_payDebt : MethodName := ⟨RX9, "payDebt", "()I"⟩
abbrev cX9_take : ByteArray := prog_11_method_28_code
def yX9_take : MethodName := ⟨RX9, "take", "(I)I"⟩
abbrev cX9_restore : ByteArray := prog_11_method_29_code
def yX9_restore : MethodName := ⟨RX9, "restore", "(I)I"⟩
abbrev cX9_undo : ByteArray := prog_11_method_30_code
def yX9_undo : MethodName := ⟨RX9, "undo", "()I"⟩
abbrev cX9_append : ByteArray := prog_11_method_31_code
def yX9_append : MethodName := ⟨RX9, "append", "(I)I"⟩
abbrev cX9_clearText : ByteArray := prog_11_method_32_code
def yX9_clearText : MethodName := ⟨RX9, "clearText", "()I"⟩
abbrev cX9_sign : ByteArray := prog_11_method_33_code
def yX9_sign : MethodName := ⟨RX9, "sign", "()I"⟩
abbrev cX9_readsPart : ByteArray := prog_11_method_34_code
def yX9_readsPart : MethodName := ⟨RX9, "readsPart", "()Z"⟩
abbrev cX9_chains : ByteArray := prog_11_method_35_code
def yX9_chains : MethodName := ⟨RX9, "chains", "()I"⟩
abbrev cX9_read : ByteArray := prog_11_method_36_code
def yX9_read : MethodName := ⟨RX9, "read", "(I)I"⟩
abbrev cX9_contracts : ByteArray := prog_11_method_37_code
def yX9_contracts : MethodName := ⟨RX9, "contracts", "()I"⟩
abbrev cX9_count : ByteArray := prog_11_method_38_code
def yX9_count : MethodName := ⟨RX9, "count", "(I)I"⟩
abbrev cX9_longest : ByteArray := prog_11_method_39_code
def yX9_longest : MethodName := ⟨RX9, "longest", "(I)I"⟩
abbrev cX9_field : ByteArray := prog_11_method_40_code
def yX9_field : MethodName := ⟨RX9, "field", "(II)I"⟩
abbrev cX9_chain : ByteArray := prog_11_method_41_code
def yX9_chain : MethodName := ⟨RX9, "chain", "(III)I"⟩
abbrev cX9_takes : ByteArray := prog_11_method_42_code
def yX9_takes : MethodName := ⟨RX9, "takes", "(II)I"⟩
abbrev cX9_workOf : ByteArray := prog_11_method_43_code
def yX9_workOf : MethodName := ⟨RX9, "workOf", "(I)I"⟩
abbrev cX9_toLay : ByteArray := prog_11_method_44_code
def yX9_toLay : MethodName := ⟨RX9, "toLay", "(II)I"⟩
abbrev cX9_stakesIn : ByteArray := prog_11_method_45_code
def yX9_stakesIn : MethodName := ⟨RX9, "stakesIn", "(I)I"⟩
abbrev cX9_doneIn : ByteArray := prog_11_method_46_code
def yX9_doneIn : MethodName := ⟨RX9, "doneIn", "(I)I"⟩
abbrev cX9_weeksOf : ByteArray := prog_11_method_47_code
def yX9_weeksOf : MethodName := ⟨RX9, "weeksOf", "(I)I"⟩
abbrev cX9_costs : ByteArray := prog_11_method_48_code
def yX9_costs : MethodName := ⟨RX9, "costs", "(II)I"⟩
abbrev cX9_bestOrder : ByteArray := prog_11_method_49_code
def yX9_bestOrder : MethodName := ⟨RX9, "bestOrder", "(I)I"⟩
def RL : String := "HedgeChainsLaw"
abbrev cL_law : ByteArray := code
def yL_law : MethodName := ⟨RL, "law", "([I)Z"⟩
abbrev vwCl : List vw_C := [(RX0, TX0, 4), (RX1, TX1, 4), (RX2, TX2, 3), (RX3, TX3, 3), (RX4, TX4, 14), (RX5, TX5, 6), (RX6, TX6, 3), (RX7, TX7, 2), (RX8, TX8, 6), (RX9, TX9, 11)]
end
section
def xAllW : List Cond := lw_tbl.filter goodWord
theorem xAll : ∀ w ∈ xAllW, w ∈ xAllW ∧ ((w.onTables && w.keeps) = true ∨ ∃ ty, w = .arrayClass ty) := fun w h => ⟨h, good_of_word (List.mem_filter.mp h).2⟩
theorem xAll_tbl : ∀ w ∈ xAllW, w ∈ lw_tbl := fun w h => (List.mem_filter.mp h).1
theorem xinT {w : Cond} (h : w ∈ tables_1) (g : goodWord w = true) : w ∈ xAllW := List.mem_filter.mpr ⟨List.mem_append_right _ h, g⟩
theorem xinS {q : MethodName × Nat} (h : q ∈ lw_privs) : Cond.selects q.1.cls q.1 q.1 ∈ xAllW := List.mem_filter.mpr ⟨List.mem_append_left _ (List.mem_map.mpr ⟨q, h, rfl⟩), rfl⟩
theorem w_0 : Cond.initialized RL ∈ xAllW := xinT (List.mem_of_getElem? (i := 0) (by decide +kernel)) (by decide +kernel)
theorem w_1 : Cond.initialized RX8 ∈ xAllW := xinT (List.mem_of_getElem? (i := 1) (by decide +kernel)) (by decide +kernel)
theorem w_2 : Cond.initialized RX6 ∈ xAllW := xinT (List.mem_of_getElem? (i := 2) (by decide +kernel)) (by decide +kernel)
theorem w_3 : Cond.initialized RX4 ∈ xAllW := xinT (List.mem_of_getElem? (i := 3) (by decide +kernel)) (by decide +kernel)
theorem w_4 : Cond.initialized RX1 ∈ xAllW := xinT (List.mem_of_getElem? (i := 4) (by decide +kernel)) (by decide +kernel)
theorem w_5 : Cond.initialized RX0 ∈ xAllW := xinT (List.mem_of_getElem? (i := 5) (by decide +kernel)) (by decide +kernel)
theorem w_6 : Cond.initialized RX3 ∈ xAllW := xinT (List.mem_of_getElem? (i := 6) (by decide +kernel)) (by decide +kernel)
theorem w_7 : Cond.initialized RX7 ∈ xAllW := xinT (List.mem_of_getElem? (i := 7) (by decide +kernel)) (by decide +kernel)
theorem w_8 : Cond.initialized RX2 ∈ xAllW := xinT (List.mem_of_getElem? (i := 8) (by decide +kernel)) (by decide +kernel)
theorem w_9 : Cond.initialized RX5 ∈ xAllW := xinT (List.mem_of_getElem? (i := 9) (by decide +kernel)) (by decide +kernel)
theorem w_10 : Cond.initialized RX9 ∈ xAllW := xinT (List.mem_of_getElem? (i := 10) (by decide +kernel)) (by decide +kernel)
theorem w_11 : Cond.initialized "java/lang/System" ∈ xAllW := xinT (List.mem_of_getElem? (i := 11) (by decide +kernel)) (by decide +kernel)
theorem w_12 : Cond.initialized "java/lang/Math" ∈ xAllW := xinT (List.mem_of_getElem? (i := 12) (by decide +kernel)) (by decide +kernel)
theorem w_13 : Cond.classLink RL 7 RX8 ∈ xAllW := xinT (List.mem_of_getElem? (i := 13) (by decide +kernel)) (by decide +kernel)
theorem w_14 : Cond.instantiable RX8 6 ∈ xAllW := xinT (List.mem_of_getElem? (i := 14) (by decide +kernel)) (by decide +kernel)
theorem w_15 : Cond.methodLink RL 9 yX8_init ∈ xAllW := xinT (List.mem_of_getElem? (i := 15) (by decide +kernel)) (by decide +kernel)
theorem w_16 : Cond.instanceMethod yX8_init ∈ xAllW := xinT (List.mem_of_getElem? (i := 16) (by decide +kernel)) (by decide +kernel)
theorem w_17 : Cond.code yX8_init cX8_init 1 none ∈ xAllW := xinT (List.mem_of_getElem? (i := 17) (by decide +kernel)) (by decide +kernel)
theorem w_18 : Cond.methodLink RX8 1 objectInit ∈ xAllW := xinT (List.mem_of_getElem? (i := 18) (by decide +kernel)) (by decide +kernel)
theorem w_19 : Cond.instanceMethod objectInit ∈ xAllW := xinT (List.mem_of_getElem? (i := 19) (by decide +kernel)) (by decide +kernel)
theorem w_20 : Cond.code objectInit object_method_1_code 1 none ∈ xAllW := xinT (List.mem_of_getElem? (i := 20) (by decide +kernel)) (by decide +kernel)
theorem w_21 : Cond.classLink RX8 7 RX6 ∈ xAllW := xinT (List.mem_of_getElem? (i := 21) (by decide +kernel)) (by decide +kernel)
theorem w_22 : Cond.instantiable RX6 3 ∈ xAllW := xinT (List.mem_of_getElem? (i := 22) (by decide +kernel)) (by decide +kernel)
theorem w_24 : Cond.instanceMethod yX6_init ∈ xAllW := xinT (List.mem_of_getElem? (i := 24) (by decide +kernel)) (by decide +kernel)
theorem w_25 : Cond.code yX6_init cX6_init 2 none ∈ xAllW := xinT (List.mem_of_getElem? (i := 25) (by decide +kernel)) (by decide +kernel)
theorem w_26 : Cond.methodLink RX6 3 objectInit ∈ xAllW := xinT (List.mem_of_getElem? (i := 26) (by decide +kernel)) (by decide +kernel)
theorem w_27 : Cond.classLink RX6 9 RX4 ∈ xAllW := xinT (List.mem_of_getElem? (i := 27) (by decide +kernel)) (by decide +kernel)
theorem w_28 : Cond.instantiable RX4 14 ∈ xAllW := xinT (List.mem_of_getElem? (i := 28) (by decide +kernel)) (by decide +kernel)
theorem w_30 : Cond.instanceMethod yX4_init ∈ xAllW := xinT (List.mem_of_getElem? (i := 30) (by decide +kernel)) (by decide +kernel)
theorem w_31 : Cond.code yX4_init cX4_init 2 none ∈ xAllW := xinT (List.mem_of_getElem? (i := 31) (by decide +kernel)) (by decide +kernel)
theorem w_32 : Cond.methodLink RX4 3 objectInit ∈ xAllW := xinT (List.mem_of_getElem? (i := 32) (by decide +kernel)) (by decide +kernel)
theorem w_33 : Cond.classLink RX4 9 RX1 ∈ xAllW := xinT (List.mem_of_getElem? (i := 33) (by decide +kernel)) (by decide +kernel)
theorem w_35 : Cond.classLink RX4 17 RX0 ∈ xAllW := xinT (List.mem_of_getElem? (i := 35) (by decide +kernel)) (by decide +kernel)
theorem w_37 : Cond.instantiable RX1 4 ∈ xAllW := xinT (List.mem_of_getElem? (i := 37) (by decide +kernel)) (by decide +kernel)
theorem w_39 : Cond.instanceMethod yX1_init ∈ xAllW := xinT (List.mem_of_getElem? (i := 39) (by decide +kernel)) (by decide +kernel)
theorem w_40 : Cond.code yX1_init cX1_init 1 none ∈ xAllW := xinT (List.mem_of_getElem? (i := 40) (by decide +kernel)) (by decide +kernel)
theorem w_41 : Cond.methodLink RX1 3 objectInit ∈ xAllW := xinT (List.mem_of_getElem? (i := 41) (by decide +kernel)) (by decide +kernel)
theorem w_42 : Cond.fieldLink "HedgeChains$Hedge" 9 "HedgeChains$Hedge" "kinds" "[I" ∈ xAllW := xinT (List.mem_of_getElem? (i := 42) (by decide +kernel)) (by decide +kernel)
theorem w_43 : Cond.fieldLink "HedgeChains$Hedge" 15 "HedgeChains$Hedge" "thicknesses" "[I" ∈ xAllW := xinT (List.mem_of_getElem? (i := 43) (by decide +kernel)) (by decide +kernel)
theorem w_44 : Cond.fieldLink "HedgeChains$Hedge" 18 "HedgeChains$Hedge" "ages" "[I" ∈ xAllW := xinT (List.mem_of_getElem? (i := 44) (by decide +kernel)) (by decide +kernel)
theorem w_45 : Cond.fieldLink "HedgeChains$Hedge" 21 "HedgeChains$Hedge" "length" "I" ∈ xAllW := xinT (List.mem_of_getElem? (i := 45) (by decide +kernel)) (by decide +kernel)
theorem w_49 : Cond.laysFinal "HedgeChains$Hedge" "HedgeChains$Hedge" "kinds" "[I" ∈ xAllW := xinT (List.mem_of_getElem? (i := 49) (by decide +kernel)) (by decide +kernel)
theorem w_51 : Cond.laysFinal "HedgeChains$Hedge" "HedgeChains$Hedge" "thicknesses" "[I" ∈ xAllW := xinT (List.mem_of_getElem? (i := 51) (by decide +kernel)) (by decide +kernel)
theorem w_53 : Cond.laysFinal "HedgeChains$Hedge" "HedgeChains$Hedge" "ages" "[I" ∈ xAllW := xinT (List.mem_of_getElem? (i := 53) (by decide +kernel)) (by decide +kernel)
theorem w_55 : Cond.lays "HedgeChains$Hedge" "HedgeChains$Hedge" "length" "I" ∈ xAllW := xinT (List.mem_of_getElem? (i := 55) (by decide +kernel)) (by decide +kernel)
theorem w_58 : Cond.arrayClass FieldType.int ∈ xAllW := xinT (List.mem_of_getElem? (i := 58) (by decide +kernel)) (by decide +kernel)
theorem w_61 : Cond.instanceMethod yX1_addChains ∈ xAllW := xinT (List.mem_of_getElem? (i := 61) (by decide +kernel)) (by decide +kernel)
theorem w_62 : Cond.code yX1_addChains cX1_addChains 5 none ∈ xAllW := xinT (List.mem_of_getElem? (i := 62) (by decide +kernel)) (by decide +kernel)
theorem w_63 : Cond.methodLink RX1 31 yX1_changeChain ∈ xAllW := xinT (List.mem_of_getElem? (i := 63) (by decide +kernel)) (by decide +kernel)
theorem w_65 : Cond.instanceMethod yX1_changeChain ∈ xAllW := xinT (List.mem_of_getElem? (i := 65) (by decide +kernel)) (by decide +kernel)
theorem w_66 : Cond.code yX1_changeChain cX1_changeChain 4 none ∈ xAllW := xinT (List.mem_of_getElem? (i := 66) (by decide +kernel)) (by decide +kernel)
theorem w_67 : Cond.methodLink RX1 35 yX1_has ∈ xAllW := xinT (List.mem_of_getElem? (i := 67) (by decide +kernel)) (by decide +kernel)
theorem w_69 : Cond.instanceMethod yX1_has ∈ xAllW := xinT (List.mem_of_getElem? (i := 69) (by decide +kernel)) (by decide +kernel)
theorem w_70 : Cond.code yX1_has cX1_has 2 (some .boolean) ∈ xAllW := xinT (List.mem_of_getElem? (i := 70) (by decide +kernel)) (by decide +kernel)
theorem w_71 : Cond.instantiable RX0 4 ∈ xAllW := xinT (List.mem_of_getElem? (i := 71) (by decide +kernel)) (by decide +kernel)
theorem w_73 : Cond.instanceMethod yX0_init ∈ xAllW := xinT (List.mem_of_getElem? (i := 73) (by decide +kernel)) (by decide +kernel)
theorem w_74 : Cond.code yX0_init cX0_init 1 none ∈ xAllW := xinT (List.mem_of_getElem? (i := 74) (by decide +kernel)) (by decide +kernel)
theorem w_75 : Cond.methodLink RX0 1 objectInit ∈ xAllW := xinT (List.mem_of_getElem? (i := 75) (by decide +kernel)) (by decide +kernel)
theorem w_76 : Cond.fieldLink "HedgeChains$Contract" 7 "HedgeChains$Contract" "made" "Z" ∈ xAllW := xinT (List.mem_of_getElem? (i := 76) (by decide +kernel)) (by decide +kernel)
theorem w_80 : Cond.fieldLink "HedgeChains$Contract" 13 "HedgeChains$Contract" "price" "I" ∈ xAllW := xinT (List.mem_of_getElem? (i := 80) (by decide +kernel)) (by decide +kernel)
theorem w_83 : Cond.fieldLink "HedgeChains$Contract" 17 "HedgeChains$Contract" "lastWeek" "I" ∈ xAllW := xinT (List.mem_of_getElem? (i := 83) (by decide +kernel)) (by decide +kernel)
theorem w_87 : Cond.fieldLink "HedgeChains$Contract" 20 "HedgeChains$Contract" "fine" "I" ∈ xAllW := xinT (List.mem_of_getElem? (i := 87) (by decide +kernel)) (by decide +kernel)
theorem w_90 : Cond.lays "HedgeChains$Contract" "HedgeChains$Contract" "made" "Z" ∈ xAllW := xinT (List.mem_of_getElem? (i := 90) (by decide +kernel)) (by decide +kernel)
theorem w_92 : Cond.lays "HedgeChains$Contract" "HedgeChains$Contract" "price" "I" ∈ xAllW := xinT (List.mem_of_getElem? (i := 92) (by decide +kernel)) (by decide +kernel)
theorem w_94 : Cond.lays "HedgeChains$Contract" "HedgeChains$Contract" "lastWeek" "I" ∈ xAllW := xinT (List.mem_of_getElem? (i := 94) (by decide +kernel)) (by decide +kernel)
theorem w_96 : Cond.lays "HedgeChains$Contract" "HedgeChains$Contract" "fine" "I" ∈ xAllW := xinT (List.mem_of_getElem? (i := 96) (by decide +kernel)) (by decide +kernel)
theorem w_99 : Cond.fieldLink "HedgeChains$Land" 11 "HedgeChains$Land" "hedges" "[LHedgeChains$Hedge;" ∈ xAllW := xinT (List.mem_of_getElem? (i := 99) (by decide +kernel)) (by decide +kernel)
theorem w_101 : Cond.fieldLink "HedgeChains$Land" 19 "HedgeChains$Land" "contracts" "[LHedgeChains$Contract;" ∈ xAllW := xinT (List.mem_of_getElem? (i := 101) (by decide +kernel)) (by decide +kernel)
theorem w_105 : Cond.fieldLink "HedgeChains$Land" 55 "HedgeChains$Land" "week" "I" ∈ xAllW := xinT (List.mem_of_getElem? (i := 105) (by decide +kernel)) (by decide +kernel)
theorem w_107 : Cond.fieldLink "HedgeChains$Land" 29 "HedgeChains$Land" "firstClosed" "I" ∈ xAllW := xinT (List.mem_of_getElem? (i := 107) (by decide +kernel)) (by decide +kernel)
theorem w_108 : Cond.fieldLink "HedgeChains$Land" 33 "HedgeChains$Land" "lastClosed" "I" ∈ xAllW := xinT (List.mem_of_getElem? (i := 108) (by decide +kernel)) (by decide +kernel)
theorem w_109 : Cond.fieldLink "HedgeChains$Land" 36 "HedgeChains$Land" "strength" "I" ∈ xAllW := xinT (List.mem_of_getElem? (i := 109) (by decide +kernel)) (by decide +kernel)
theorem w_110 : Cond.fieldLink "HedgeChains$Land" 39 "HedgeChains$Land" "work" "I" ∈ xAllW := xinT (List.mem_of_getElem? (i := 110) (by decide +kernel)) (by decide +kernel)
theorem w_112 : Cond.fieldLink "HedgeChains$Land" 42 "HedgeChains$Land" "stakes" "I" ∈ xAllW := xinT (List.mem_of_getElem? (i := 112) (by decide +kernel)) (by decide +kernel)
theorem w_114 : Cond.fieldLink "HedgeChains$Land" 45 "HedgeChains$Land" "purse" "I" ∈ xAllW := xinT (List.mem_of_getElem? (i := 114) (by decide +kernel)) (by decide +kernel)
theorem w_116 : Cond.fieldLink "HedgeChains$Land" 58 "HedgeChains$Land" "debt" "I" ∈ xAllW := xinT (List.mem_of_getElem? (i := 116) (by decide +kernel)) (by decide +kernel)
theorem w_118 : Cond.fieldLink "HedgeChains$Land" 61 "HedgeChains$Land" "earned" "I" ∈ xAllW := xinT (List.mem_of_getElem? (i := 118) (by decide +kernel)) (by decide +kernel)
theorem w_120 : Cond.fieldLink "HedgeChains$Land" 64 "HedgeChains$Land" "fined" "I" ∈ xAllW := xinT (List.mem_of_getElem? (i := 120) (by decide +kernel)) (by decide +kernel)
theorem w_122 : Cond.fieldLink "HedgeChains$Land" 67 "HedgeChains$Land" "laid" "I" ∈ xAllW := xinT (List.mem_of_getElem? (i := 122) (by decide +kernel)) (by decide +kernel)
theorem w_124 : Cond.fieldLink "HedgeChains$Land" 70 "HedgeChains$Land" "planted" "I" ∈ xAllW := xinT (List.mem_of_getElem? (i := 124) (by decide +kernel)) (by decide +kernel)
theorem w_126 : Cond.laysFinal "HedgeChains$Land" "HedgeChains$Land" "hedges" "[LHedgeChains$Hedge;" ∈ xAllW := xinT (List.mem_of_getElem? (i := 126) (by decide +kernel)) (by decide +kernel)
theorem w_128 : Cond.laysFinal "HedgeChains$Land" "HedgeChains$Land" "contracts" "[LHedgeChains$Contract;" ∈ xAllW := xinT (List.mem_of_getElem? (i := 128) (by decide +kernel)) (by decide +kernel)
theorem w_130 : Cond.lays "HedgeChains$Land" "HedgeChains$Land" "week" "I" ∈ xAllW := xinT (List.mem_of_getElem? (i := 130) (by decide +kernel)) (by decide +kernel)
theorem w_132 : Cond.lays "HedgeChains$Land" "HedgeChains$Land" "firstClosed" "I" ∈ xAllW := xinT (List.mem_of_getElem? (i := 132) (by decide +kernel)) (by decide +kernel)
theorem w_134 : Cond.lays "HedgeChains$Land" "HedgeChains$Land" "lastClosed" "I" ∈ xAllW := xinT (List.mem_of_getElem? (i := 134) (by decide +kernel)) (by decide +kernel)
theorem w_136 : Cond.lays "HedgeChains$Land" "HedgeChains$Land" "strength" "I" ∈ xAllW := xinT (List.mem_of_getElem? (i := 136) (by decide +kernel)) (by decide +kernel)
theorem w_138 : Cond.lays "HedgeChains$Land" "HedgeChains$Land" "work" "I" ∈ xAllW := xinT (List.mem_of_getElem? (i := 138) (by decide +kernel)) (by decide +kernel)
theorem w_140 : Cond.lays "HedgeChains$Land" "HedgeChains$Land" "stakes" "I" ∈ xAllW := xinT (List.mem_of_getElem? (i := 140) (by decide +kernel)) (by decide +kernel)
theorem w_142 : Cond.lays "HedgeChains$Land" "HedgeChains$Land" "purse" "I" ∈ xAllW := xinT (List.mem_of_getElem? (i := 142) (by decide +kernel)) (by decide +kernel)
theorem w_144 : Cond.lays "HedgeChains$Land" "HedgeChains$Land" "debt" "I" ∈ xAllW := xinT (List.mem_of_getElem? (i := 144) (by decide +kernel)) (by decide +kernel)
theorem w_146 : Cond.lays "HedgeChains$Land" "HedgeChains$Land" "earned" "I" ∈ xAllW := xinT (List.mem_of_getElem? (i := 146) (by decide +kernel)) (by decide +kernel)
theorem w_148 : Cond.lays "HedgeChains$Land" "HedgeChains$Land" "fined" "I" ∈ xAllW := xinT (List.mem_of_getElem? (i := 148) (by decide +kernel)) (by decide +kernel)
theorem w_150 : Cond.lays "HedgeChains$Land" "HedgeChains$Land" "laid" "I" ∈ xAllW := xinT (List.mem_of_getElem? (i := 150) (by decide +kernel)) (by decide +kernel)
theorem w_152 : Cond.lays "HedgeChains$Land" "HedgeChains$Land" "planted" "I" ∈ xAllW := xinT (List.mem_of_getElem? (i := 152) (by decide +kernel)) (by decide +kernel)
theorem w_156 : Cond.fieldLink "HedgeChains$State" 12 "HedgeChains$State" "land" "LHedgeChains$Land;" ∈ xAllW := xinT (List.mem_of_getElem? (i := 156) (by decide +kernel)) (by decide +kernel)
theorem w_158 : Cond.fieldLink "HedgeChains$State" 18 "HedgeChains$State" "slots" "[LHedgeChains$Land;" ∈ xAllW := xinT (List.mem_of_getElem? (i := 158) (by decide +kernel)) (by decide +kernel)
theorem w_160 : Cond.fieldLink "HedgeChains$State" 22 "HedgeChains$State" "filled" "[Z" ∈ xAllW := xinT (List.mem_of_getElem? (i := 160) (by decide +kernel)) (by decide +kernel)
theorem w_162 : Cond.laysFinal "HedgeChains$State" "HedgeChains$State" "land" "LHedgeChains$Land;" ∈ xAllW := xinT (List.mem_of_getElem? (i := 162) (by decide +kernel)) (by decide +kernel)
theorem w_164 : Cond.laysFinal "HedgeChains$State" "HedgeChains$State" "slots" "[LHedgeChains$Land;" ∈ xAllW := xinT (List.mem_of_getElem? (i := 164) (by decide +kernel)) (by decide +kernel)
theorem w_166 : Cond.laysFinal "HedgeChains$State" "HedgeChains$State" "filled" "[Z" ∈ xAllW := xinT (List.mem_of_getElem? (i := 166) (by decide +kernel)) (by decide +kernel)
theorem w_169 : Cond.arrayClass FieldType.boolean ∈ xAllW := xinT (List.mem_of_getElem? (i := 169) (by decide +kernel)) (by decide +kernel)
theorem w_170 : Cond.classLink RX8 21 RX3 ∈ xAllW := xinT (List.mem_of_getElem? (i := 170) (by decide +kernel)) (by decide +kernel)
theorem w_171 : Cond.instantiable RX3 3 ∈ xAllW := xinT (List.mem_of_getElem? (i := 171) (by decide +kernel)) (by decide +kernel)
theorem w_173 : Cond.instanceMethod yX3_init ∈ xAllW := xinT (List.mem_of_getElem? (i := 173) (by decide +kernel)) (by decide +kernel)
theorem w_174 : Cond.code yX3_init cX3_init 2 none ∈ xAllW := xinT (List.mem_of_getElem? (i := 174) (by decide +kernel)) (by decide +kernel)
theorem w_175 : Cond.methodLink RX3 3 objectInit ∈ xAllW := xinT (List.mem_of_getElem? (i := 175) (by decide +kernel)) (by decide +kernel)
theorem w_176 : Cond.classLink RX3 9 RX6 ∈ xAllW := xinT (List.mem_of_getElem? (i := 176) (by decide +kernel)) (by decide +kernel)
theorem w_179 : Cond.fieldLink "HedgeChains$History" 11 "HedgeChains$History" "states" "[LHedgeChains$State;" ∈ xAllW := xinT (List.mem_of_getElem? (i := 179) (by decide +kernel)) (by decide +kernel)
theorem w_180 : Cond.fieldLink "HedgeChains$History" 18 "HedgeChains$History" "next" "I" ∈ xAllW := xinT (List.mem_of_getElem? (i := 180) (by decide +kernel)) (by decide +kernel)
theorem w_181 : Cond.fieldLink "HedgeChains$History" 22 "HedgeChains$History" "kept" "I" ∈ xAllW := xinT (List.mem_of_getElem? (i := 181) (by decide +kernel)) (by decide +kernel)
theorem w_183 : Cond.laysFinal "HedgeChains$History" "HedgeChains$History" "states" "[LHedgeChains$State;" ∈ xAllW := xinT (List.mem_of_getElem? (i := 183) (by decide +kernel)) (by decide +kernel)
theorem w_185 : Cond.lays "HedgeChains$History" "HedgeChains$History" "next" "I" ∈ xAllW := xinT (List.mem_of_getElem? (i := 185) (by decide +kernel)) (by decide +kernel)
theorem w_187 : Cond.lays "HedgeChains$History" "HedgeChains$History" "kept" "I" ∈ xAllW := xinT (List.mem_of_getElem? (i := 187) (by decide +kernel)) (by decide +kernel)
theorem w_190 : Cond.classLink RX8 28 RX7 ∈ xAllW := xinT (List.mem_of_getElem? (i := 190) (by decide +kernel)) (by decide +kernel)
theorem w_191 : Cond.instantiable RX7 2 ∈ xAllW := xinT (List.mem_of_getElem? (i := 191) (by decide +kernel)) (by decide +kernel)
theorem w_193 : Cond.instanceMethod yX7_init ∈ xAllW := xinT (List.mem_of_getElem? (i := 193) (by decide +kernel)) (by decide +kernel)
theorem w_194 : Cond.code yX7_init cX7_init 1 none ∈ xAllW := xinT (List.mem_of_getElem? (i := 194) (by decide +kernel)) (by decide +kernel)
theorem w_195 : Cond.methodLink RX7 3 objectInit ∈ xAllW := xinT (List.mem_of_getElem? (i := 195) (by decide +kernel)) (by decide +kernel)
theorem w_196 : Cond.fieldLink "HedgeChains$Text" 9 "HedgeChains$Text" "signs" "[C" ∈ xAllW := xinT (List.mem_of_getElem? (i := 196) (by decide +kernel)) (by decide +kernel)
theorem w_197 : Cond.fieldLink "HedgeChains$Text" 15 "HedgeChains$Text" "length" "I" ∈ xAllW := xinT (List.mem_of_getElem? (i := 197) (by decide +kernel)) (by decide +kernel)
theorem w_200 : Cond.laysFinal "HedgeChains$Text" "HedgeChains$Text" "signs" "[C" ∈ xAllW := xinT (List.mem_of_getElem? (i := 200) (by decide +kernel)) (by decide +kernel)
theorem w_202 : Cond.lays "HedgeChains$Text" "HedgeChains$Text" "length" "I" ∈ xAllW := xinT (List.mem_of_getElem? (i := 202) (by decide +kernel)) (by decide +kernel)
theorem w_205 : Cond.arrayClass FieldType.char ∈ xAllW := xinT (List.mem_of_getElem? (i := 205) (by decide +kernel)) (by decide +kernel)
theorem w_206 : Cond.classLink RX8 35 RX2 ∈ xAllW := xinT (List.mem_of_getElem? (i := 206) (by decide +kernel)) (by decide +kernel)
theorem w_207 : Cond.instantiable RX2 3 ∈ xAllW := xinT (List.mem_of_getElem? (i := 207) (by decide +kernel)) (by decide +kernel)
theorem w_209 : Cond.instanceMethod yX2_init ∈ xAllW := xinT (List.mem_of_getElem? (i := 209) (by decide +kernel)) (by decide +kernel)
theorem w_210 : Cond.code yX2_init cX2_init 1 none ∈ xAllW := xinT (List.mem_of_getElem? (i := 210) (by decide +kernel)) (by decide +kernel)
theorem w_211 : Cond.methodLink RX2 3 objectInit ∈ xAllW := xinT (List.mem_of_getElem? (i := 211) (by decide +kernel)) (by decide +kernel)
theorem w_212 : Cond.classLink RX2 9 RX1 ∈ xAllW := xinT (List.mem_of_getElem? (i := 212) (by decide +kernel)) (by decide +kernel)
theorem w_214 : Cond.fieldLink "HedgeChains$HedgeReader" 12 "HedgeChains$HedgeReader" "hedge" "LHedgeChains$Hedge;" ∈ xAllW := xinT (List.mem_of_getElem? (i := 214) (by decide +kernel)) (by decide +kernel)
theorem w_216 : Cond.fieldLink "HedgeChains$HedgeReader" 18 "HedgeChains$HedgeReader" "told" "I" ∈ xAllW := xinT (List.mem_of_getElem? (i := 216) (by decide +kernel)) (by decide +kernel)
theorem w_218 : Cond.fieldLink "HedgeChains$HedgeReader" 22 "HedgeChains$HedgeReader" "at" "I" ∈ xAllW := xinT (List.mem_of_getElem? (i := 218) (by decide +kernel)) (by decide +kernel)
theorem w_219 : Cond.laysFinal "HedgeChains$HedgeReader" "HedgeChains$HedgeReader" "hedge" "LHedgeChains$Hedge;" ∈ xAllW := xinT (List.mem_of_getElem? (i := 219) (by decide +kernel)) (by decide +kernel)
theorem w_221 : Cond.lays "HedgeChains$HedgeReader" "HedgeChains$HedgeReader" "told" "I" ∈ xAllW := xinT (List.mem_of_getElem? (i := 221) (by decide +kernel)) (by decide +kernel)
theorem w_223 : Cond.lays "HedgeChains$HedgeReader" "HedgeChains$HedgeReader" "at" "I" ∈ xAllW := xinT (List.mem_of_getElem? (i := 223) (by decide +kernel)) (by decide +kernel)
theorem w_226 : Cond.classLink RX8 42 RX5 ∈ xAllW := xinT (List.mem_of_getElem? (i := 226) (by decide +kernel)) (by decide +kernel)
theorem w_227 : Cond.instantiable RX5 6 ∈ xAllW := xinT (List.mem_of_getElem? (i := 227) (by decide +kernel)) (by decide +kernel)
theorem w_229 : Cond.instanceMethod yX5_init ∈ xAllW := xinT (List.mem_of_getElem? (i := 229) (by decide +kernel)) (by decide +kernel)
theorem w_230 : Cond.code yX5_init cX5_init 1 none ∈ xAllW := xinT (List.mem_of_getElem? (i := 230) (by decide +kernel)) (by decide +kernel)
theorem w_231 : Cond.methodLink RX5 3 objectInit ∈ xAllW := xinT (List.mem_of_getElem? (i := 231) (by decide +kernel)) (by decide +kernel)
theorem w_232 : Cond.fieldLink "HedgeChains$Orders" 9 "HedgeChains$Orders" "weeks" "[I" ∈ xAllW := xinT (List.mem_of_getElem? (i := 232) (by decide +kernel)) (by decide +kernel)
theorem w_233 : Cond.fieldLink "HedgeChains$Orders" 15 "HedgeChains$Orders" "lastWeeks" "[I" ∈ xAllW := xinT (List.mem_of_getElem? (i := 233) (by decide +kernel)) (by decide +kernel)
theorem w_234 : Cond.fieldLink "HedgeChains$Orders" 18 "HedgeChains$Orders" "finesPerWeek" "[I" ∈ xAllW := xinT (List.mem_of_getElem? (i := 234) (by decide +kernel)) (by decide +kernel)
theorem w_235 : Cond.fieldLink "HedgeChains$Orders" 21 "HedgeChains$Orders" "least" "[I" ∈ xAllW := xinT (List.mem_of_getElem? (i := 235) (by decide +kernel)) (by decide +kernel)
theorem w_236 : Cond.fieldLink "HedgeChains$Orders" 28 "HedgeChains$Orders" "all" "I" ∈ xAllW := xinT (List.mem_of_getElem? (i := 236) (by decide +kernel)) (by decide +kernel)
theorem w_237 : Cond.fieldLink "HedgeChains$Orders" 41 "HedgeChains$Orders" "presentWeek" "I" ∈ xAllW := xinT (List.mem_of_getElem? (i := 237) (by decide +kernel)) (by decide +kernel)
theorem w_238 : Cond.laysFinal "HedgeChains$Orders" "HedgeChains$Orders" "weeks" "[I" ∈ xAllW := xinT (List.mem_of_getElem? (i := 238) (by decide +kernel)) (by decide +kernel)
theorem w_240 : Cond.laysFinal "HedgeChains$Orders" "HedgeChains$Orders" "lastWeeks" "[I" ∈ xAllW := xinT (List.mem_of_getElem? (i := 240) (by decide +kernel)) (by decide +kernel)
theorem w_242 : Cond.laysFinal "HedgeChains$Orders" "HedgeChains$Orders" "finesPerWeek" "[I" ∈ xAllW := xinT (List.mem_of_getElem? (i := 242) (by decide +kernel)) (by decide +kernel)
theorem w_244 : Cond.laysFinal "HedgeChains$Orders" "HedgeChains$Orders" "least" "[I" ∈ xAllW := xinT (List.mem_of_getElem? (i := 244) (by decide +kernel)) (by decide +kernel)
theorem w_246 : Cond.lays "HedgeChains$Orders" "HedgeChains$Orders" "all" "I" ∈ xAllW := xinT (List.mem_of_getElem? (i := 246) (by decide +kernel)) (by decide +kernel)
theorem w_248 : Cond.lays "HedgeChains$Orders" "HedgeChains$Orders" "presentWeek" "I" ∈ xAllW := xinT (List.mem_of_getElem? (i := 248) (by decide +kernel)) (by decide +kernel)
theorem w_251 : Cond.fieldLink "HedgeChains" 10 "HedgeChains" "state" "LHedgeChains$State;" ∈ xAllW := xinT (List.mem_of_getElem? (i := 251) (by decide +kernel)) (by decide +kernel)
theorem w_252 : Cond.fieldLink "HedgeChains" 20 "HedgeChains" "land" "LHedgeChains$Land;" ∈ xAllW := xinT (List.mem_of_getElem? (i := 252) (by decide +kernel)) (by decide +kernel)
theorem w_253 : Cond.fieldLink "HedgeChains" 24 "HedgeChains" "history" "LHedgeChains$History;" ∈ xAllW := xinT (List.mem_of_getElem? (i := 253) (by decide +kernel)) (by decide +kernel)
theorem w_254 : Cond.fieldLink "HedgeChains" 31 "HedgeChains" "text" "LHedgeChains$Text;" ∈ xAllW := xinT (List.mem_of_getElem? (i := 254) (by decide +kernel)) (by decide +kernel)
theorem w_255 : Cond.fieldLink "HedgeChains" 38 "HedgeChains" "reader" "LHedgeChains$HedgeReader;" ∈ xAllW := xinT (List.mem_of_getElem? (i := 255) (by decide +kernel)) (by decide +kernel)
theorem w_256 : Cond.fieldLink "HedgeChains" 45 "HedgeChains" "orders" "LHedgeChains$Orders;" ∈ xAllW := xinT (List.mem_of_getElem? (i := 256) (by decide +kernel)) (by decide +kernel)
theorem w_257 : Cond.laysFinal "HedgeChains" "HedgeChains" "state" "LHedgeChains$State;" ∈ xAllW := xinT (List.mem_of_getElem? (i := 257) (by decide +kernel)) (by decide +kernel)
theorem w_259 : Cond.laysFinal "HedgeChains" "HedgeChains" "land" "LHedgeChains$Land;" ∈ xAllW := xinT (List.mem_of_getElem? (i := 259) (by decide +kernel)) (by decide +kernel)
theorem w_261 : Cond.laysFinal "HedgeChains" "HedgeChains" "history" "LHedgeChains$History;" ∈ xAllW := xinT (List.mem_of_getElem? (i := 261) (by decide +kernel)) (by decide +kernel)
theorem w_263 : Cond.laysFinal "HedgeChains" "HedgeChains" "text" "LHedgeChains$Text;" ∈ xAllW := xinT (List.mem_of_getElem? (i := 263) (by decide +kernel)) (by decide +kernel)
theorem w_265 : Cond.laysFinal "HedgeChains" "HedgeChains" "reader" "LHedgeChains$HedgeReader;" ∈ xAllW := xinT (List.mem_of_getElem? (i := 265) (by decide +kernel)) (by decide +kernel)
theorem w_267 : Cond.laysFinal "HedgeChains" "HedgeChains" "orders" "LHedgeChains$Orders;" ∈ xAllW := xinT (List.mem_of_getElem? (i := 267) (by decide +kernel)) (by decide +kernel)
theorem w_270 : Cond.methodLink RL 13 yX8_lay ∈ xAllW := xinT (List.mem_of_getElem? (i := 270) (by decide +kernel)) (by decide +kernel)
theorem w_271 : Cond.instanceMethod yX8_lay ∈ xAllW := xinT (List.mem_of_getElem? (i := 271) (by decide +kernel)) (by decide +kernel)
theorem w_272 : Cond.selects RX8 yX8_lay yX8_lay ∈ xAllW := xinT (List.mem_of_getElem? (i := 272) (by decide +kernel)) (by decide +kernel)
theorem w_273 : Cond.code yX8_lay cX8_lay 5 (some .int) ∈ xAllW := xinT (List.mem_of_getElem? (i := 273) (by decide +kernel)) (by decide +kernel)
theorem w_274 : Cond.methodLink RX8 49 yX8_isChain ∈ xAllW := xinT (List.mem_of_getElem? (i := 274) (by decide +kernel)) (by decide +kernel)
theorem w_276 : Cond.instanceMethod yX8_isChain ∈ xAllW := xinT (List.mem_of_getElem? (i := 276) (by decide +kernel)) (by decide +kernel)
theorem w_277 : Cond.code yX8_isChain cX8_isChain 3 (some .boolean) ∈ xAllW := xinT (List.mem_of_getElem? (i := 277) (by decide +kernel)) (by decide +kernel)
theorem w_278 : Cond.methodLink RX8 122 yX8_isField ∈ xAllW := xinT (List.mem_of_getElem? (i := 278) (by decide +kernel)) (by decide +kernel)
theorem w_279 : Cond.static yX8_isField ∈ xAllW := xinT (List.mem_of_getElem? (i := 279) (by decide +kernel)) (by decide +kernel)
theorem w_280 : Cond.code yX8_isField cX8_isField 1 (some .boolean) ∈ xAllW := xinT (List.mem_of_getElem? (i := 280) (by decide +kernel)) (by decide +kernel)
theorem w_281 : Cond.methodLink RX8 53 yX8_isWithin ∈ xAllW := xinT (List.mem_of_getElem? (i := 281) (by decide +kernel)) (by decide +kernel)
theorem w_282 : Cond.static yX8_isWithin ∈ xAllW := xinT (List.mem_of_getElem? (i := 282) (by decide +kernel)) (by decide +kernel)
theorem w_283 : Cond.code yX8_isWithin cX8_isWithin 3 (some .boolean) ∈ xAllW := xinT (List.mem_of_getElem? (i := 283) (by decide +kernel)) (by decide +kernel)
theorem w_287 : Cond.instanceMethod yX4_isClosed ∈ xAllW := xinT (List.mem_of_getElem? (i := 287) (by decide +kernel)) (by decide +kernel)
theorem w_288 : Cond.code yX4_isClosed cX4_isClosed 3 (some .boolean) ∈ xAllW := xinT (List.mem_of_getElem? (i := 288) (by decide +kernel)) (by decide +kernel)
theorem w_291 : Cond.instanceMethod yX4_canLay ∈ xAllW := xinT (List.mem_of_getElem? (i := 291) (by decide +kernel)) (by decide +kernel)
theorem w_292 : Cond.code yX4_canLay cX4_canLay 4 (some .boolean) ∈ xAllW := xinT (List.mem_of_getElem? (i := 292) (by decide +kernel)) (by decide +kernel)
theorem w_295 : Cond.instanceMethod yX1_isToLay ∈ xAllW := xinT (List.mem_of_getElem? (i := 295) (by decide +kernel)) (by decide +kernel)
theorem w_296 : Cond.code yX1_isToLay cX1_isToLay 2 (some .boolean) ∈ xAllW := xinT (List.mem_of_getElem? (i := 296) (by decide +kernel)) (by decide +kernel)
theorem w_299 : Cond.instanceMethod yX1_thicknessOf ∈ xAllW := xinT (List.mem_of_getElem? (i := 299) (by decide +kernel)) (by decide +kernel)
theorem w_300 : Cond.code yX1_thicknessOf cX1_thicknessOf 2 (some .int) ∈ xAllW := xinT (List.mem_of_getElem? (i := 300) (by decide +kernel)) (by decide +kernel)
theorem w_303 : Cond.instanceMethod yX3_keep ∈ xAllW := xinT (List.mem_of_getElem? (i := 303) (by decide +kernel)) (by decide +kernel)
theorem w_304 : Cond.code yX3_keep cX3_keep 2 none ∈ xAllW := xinT (List.mem_of_getElem? (i := 304) (by decide +kernel)) (by decide +kernel)
theorem w_307 : Cond.instanceMethod yX6_copyFrom ∈ xAllW := xinT (List.mem_of_getElem? (i := 307) (by decide +kernel)) (by decide +kernel)
theorem w_308 : Cond.code yX6_copyFrom cX6_copyFrom 3 none ∈ xAllW := xinT (List.mem_of_getElem? (i := 308) (by decide +kernel)) (by decide +kernel)
theorem w_311 : Cond.instanceMethod yX4_copyFrom ∈ xAllW := xinT (List.mem_of_getElem? (i := 311) (by decide +kernel)) (by decide +kernel)
theorem w_312 : Cond.code yX4_copyFrom cX4_copyFrom 3 none ∈ xAllW := xinT (List.mem_of_getElem? (i := 312) (by decide +kernel)) (by decide +kernel)
theorem w_315 : Cond.instanceMethod yX1_copyFrom ∈ xAllW := xinT (List.mem_of_getElem? (i := 315) (by decide +kernel)) (by decide +kernel)
theorem w_316 : Cond.code yX1_copyFrom cX1_copyFrom 2 none ∈ xAllW := xinT (List.mem_of_getElem? (i := 316) (by decide +kernel)) (by decide +kernel)
theorem w_317 : Cond.methodLink RX1 25 arraycopyName ∈ xAllW := xinT (List.mem_of_getElem? (i := 317) (by decide +kernel)) (by decide +kernel)
theorem w_318 : Cond.static arraycopyName ∈ xAllW := xinT (List.mem_of_getElem? (i := 318) (by decide +kernel)) (by decide +kernel)
theorem w_319 : Cond.native arraycopyName ∈ xAllW := xinT (List.mem_of_getElem? (i := 319) (by decide +kernel)) (by decide +kernel)
theorem w_322 : Cond.instanceMethod yX0_copyFrom ∈ xAllW := xinT (List.mem_of_getElem? (i := 322) (by decide +kernel)) (by decide +kernel)
theorem w_323 : Cond.code yX0_copyFrom cX0_copyFrom 2 none ∈ xAllW := xinT (List.mem_of_getElem? (i := 323) (by decide +kernel)) (by decide +kernel)
theorem w_324 : Cond.methodLink RX3 29 Lib.Math.min.name ∈ xAllW := xinT (List.mem_of_getElem? (i := 324) (by decide +kernel)) (by decide +kernel)
theorem w_325 : Cond.static Lib.Math.min.name ∈ xAllW := xinT (List.mem_of_getElem? (i := 325) (by decide +kernel)) (by decide +kernel)
theorem w_326 : Cond.code Lib.Math.min.name Lib.Math.min.code 2 (some .int) ∈ xAllW := xinT (List.mem_of_getElem? (i := 326) (by decide +kernel)) (by decide +kernel)
theorem w_329 : Cond.instanceMethod yX4_layChain ∈ xAllW := xinT (List.mem_of_getElem? (i := 329) (by decide +kernel)) (by decide +kernel)
theorem w_330 : Cond.code yX4_layChain cX4_layChain 5 none ∈ xAllW := xinT (List.mem_of_getElem? (i := 330) (by decide +kernel)) (by decide +kernel)
theorem w_332 : Cond.methodLink RX4 91 yX4_endContractIfNoneStands ∈ xAllW := xinT (List.mem_of_getElem? (i := 332) (by decide +kernel)) (by decide +kernel)
theorem w_334 : Cond.instanceMethod yX4_endContractIfNoneStands ∈ xAllW := xinT (List.mem_of_getElem? (i := 334) (by decide +kernel)) (by decide +kernel)
theorem w_335 : Cond.code yX4_endContractIfNoneStands cX4_endContractIfNoneStands 2 none ∈ xAllW := xinT (List.mem_of_getElem? (i := 335) (by decide +kernel)) (by decide +kernel)
theorem w_338 : Cond.instanceMethod yX1_numberOf ∈ xAllW := xinT (List.mem_of_getElem? (i := 338) (by decide +kernel)) (by decide +kernel)
theorem w_339 : Cond.code yX1_numberOf cX1_numberOf 4 (some .int) ∈ xAllW := xinT (List.mem_of_getElem? (i := 339) (by decide +kernel)) (by decide +kernel)
theorem w_340 : Cond.methodLink RX1 39 yX1_kindOf ∈ xAllW := xinT (List.mem_of_getElem? (i := 340) (by decide +kernel)) (by decide +kernel)
theorem w_342 : Cond.instanceMethod yX1_kindOf ∈ xAllW := xinT (List.mem_of_getElem? (i := 342) (by decide +kernel)) (by decide +kernel)
theorem w_343 : Cond.code yX1_kindOf cX1_kindOf 2 (some .int) ∈ xAllW := xinT (List.mem_of_getElem? (i := 343) (by decide +kernel)) (by decide +kernel)
theorem w_344 : Cond.methodLink RL 18 yX8_cut ∈ xAllW := xinT (List.mem_of_getElem? (i := 344) (by decide +kernel)) (by decide +kernel)
theorem w_345 : Cond.instanceMethod yX8_cut ∈ xAllW := xinT (List.mem_of_getElem? (i := 345) (by decide +kernel)) (by decide +kernel)
theorem w_346 : Cond.selects RX8 yX8_cut yX8_cut ∈ xAllW := xinT (List.mem_of_getElem? (i := 346) (by decide +kernel)) (by decide +kernel)
theorem w_347 : Cond.code yX8_cut cX8_cut 3 (some .int) ∈ xAllW := xinT (List.mem_of_getElem? (i := 347) (by decide +kernel)) (by decide +kernel)
theorem w_350 : Cond.instanceMethod yX4_canCut ∈ xAllW := xinT (List.mem_of_getElem? (i := 350) (by decide +kernel)) (by decide +kernel)
theorem w_351 : Cond.code yX4_canCut cX4_canCut 3 (some .boolean) ∈ xAllW := xinT (List.mem_of_getElem? (i := 351) (by decide +kernel)) (by decide +kernel)
theorem w_354 : Cond.instanceMethod yX1_isToCut ∈ xAllW := xinT (List.mem_of_getElem? (i := 354) (by decide +kernel)) (by decide +kernel)
theorem w_355 : Cond.code yX1_isToCut cX1_isToCut 2 (some .boolean) ∈ xAllW := xinT (List.mem_of_getElem? (i := 355) (by decide +kernel)) (by decide +kernel)
theorem w_358 : Cond.instanceMethod yX4_cutChain ∈ xAllW := xinT (List.mem_of_getElem? (i := 358) (by decide +kernel)) (by decide +kernel)
theorem w_359 : Cond.code yX4_cutChain cX4_cutChain 4 none ∈ xAllW := xinT (List.mem_of_getElem? (i := 359) (by decide +kernel)) (by decide +kernel)
theorem w_360 : Cond.methodLink RL 23 yX8_plant ∈ xAllW := xinT (List.mem_of_getElem? (i := 360) (by decide +kernel)) (by decide +kernel)
theorem w_361 : Cond.instanceMethod yX8_plant ∈ xAllW := xinT (List.mem_of_getElem? (i := 361) (by decide +kernel)) (by decide +kernel)
theorem w_362 : Cond.selects RX8 yX8_plant yX8_plant ∈ xAllW := xinT (List.mem_of_getElem? (i := 362) (by decide +kernel)) (by decide +kernel)
theorem w_363 : Cond.code yX8_plant cX8_plant 3 (some .int) ∈ xAllW := xinT (List.mem_of_getElem? (i := 363) (by decide +kernel)) (by decide +kernel)
theorem w_366 : Cond.instanceMethod yX4_canPlant ∈ xAllW := xinT (List.mem_of_getElem? (i := 366) (by decide +kernel)) (by decide +kernel)
theorem w_367 : Cond.code yX4_canPlant cX4_canPlant 3 (some .boolean) ∈ xAllW := xinT (List.mem_of_getElem? (i := 367) (by decide +kernel)) (by decide +kernel)
theorem w_371 : Cond.instanceMethod yX4_plantChain ∈ xAllW := xinT (List.mem_of_getElem? (i := 371) (by decide +kernel)) (by decide +kernel)
theorem w_372 : Cond.code yX4_plantChain cX4_plantChain 3 none ∈ xAllW := xinT (List.mem_of_getElem? (i := 372) (by decide +kernel)) (by decide +kernel)
theorem w_373 : Cond.methodLink RL 27 yX8_grub ∈ xAllW := xinT (List.mem_of_getElem? (i := 373) (by decide +kernel)) (by decide +kernel)
theorem w_374 : Cond.instanceMethod yX8_grub ∈ xAllW := xinT (List.mem_of_getElem? (i := 374) (by decide +kernel)) (by decide +kernel)
theorem w_375 : Cond.selects RX8 yX8_grub yX8_grub ∈ xAllW := xinT (List.mem_of_getElem? (i := 375) (by decide +kernel)) (by decide +kernel)
theorem w_376 : Cond.code yX8_grub cX8_grub 4 (some .int) ∈ xAllW := xinT (List.mem_of_getElem? (i := 376) (by decide +kernel)) (by decide +kernel)
theorem w_380 : Cond.instanceMethod yX4_grubChain ∈ xAllW := xinT (List.mem_of_getElem? (i := 380) (by decide +kernel)) (by decide +kernel)
theorem w_381 : Cond.code yX4_grubChain cX4_grubChain 3 none ∈ xAllW := xinT (List.mem_of_getElem? (i := 381) (by decide +kernel)) (by decide +kernel)
theorem w_382 : Cond.methodLink RL 31 yX8_pass ∈ xAllW := xinT (List.mem_of_getElem? (i := 382) (by decide +kernel)) (by decide +kernel)
theorem w_383 : Cond.instanceMethod yX8_pass ∈ xAllW := xinT (List.mem_of_getElem? (i := 383) (by decide +kernel)) (by decide +kernel)
theorem w_384 : Cond.selects RX8 yX8_pass yX8_pass ∈ xAllW := xinT (List.mem_of_getElem? (i := 384) (by decide +kernel)) (by decide +kernel)
theorem w_385 : Cond.code yX8_pass cX8_pass 4 (some .int) ∈ xAllW := xinT (List.mem_of_getElem? (i := 385) (by decide +kernel)) (by decide +kernel)
theorem w_388 : Cond.instanceMethod yX4_passWeek ∈ xAllW := xinT (List.mem_of_getElem? (i := 388) (by decide +kernel)) (by decide +kernel)
theorem w_389 : Cond.code yX4_passWeek cX4_passWeek 2 (some .int) ∈ xAllW := xinT (List.mem_of_getElem? (i := 389) (by decide +kernel)) (by decide +kernel)
theorem w_392 : Cond.instanceMethod yX1_grow ∈ xAllW := xinT (List.mem_of_getElem? (i := 392) (by decide +kernel)) (by decide +kernel)
theorem w_393 : Cond.code yX1_grow cX1_grow 4 none ∈ xAllW := xinT (List.mem_of_getElem? (i := 393) (by decide +kernel)) (by decide +kernel)
theorem w_394 : Cond.methodLink RX1 46 yX1_growOlder ∈ xAllW := xinT (List.mem_of_getElem? (i := 394) (by decide +kernel)) (by decide +kernel)
theorem w_396 : Cond.instanceMethod yX1_growOlder ∈ xAllW := xinT (List.mem_of_getElem? (i := 396) (by decide +kernel)) (by decide +kernel)
theorem w_397 : Cond.code yX1_growOlder cX1_growOlder 2 none ∈ xAllW := xinT (List.mem_of_getElem? (i := 397) (by decide +kernel)) (by decide +kernel)
theorem w_398 : Cond.methodLink RX1 62 yX1_ageOf ∈ xAllW := xinT (List.mem_of_getElem? (i := 398) (by decide +kernel)) (by decide +kernel)
theorem w_400 : Cond.instanceMethod yX1_ageOf ∈ xAllW := xinT (List.mem_of_getElem? (i := 400) (by decide +kernel)) (by decide +kernel)
theorem w_401 : Cond.code yX1_ageOf cX1_ageOf 2 (some .int) ∈ xAllW := xinT (List.mem_of_getElem? (i := 401) (by decide +kernel)) (by decide +kernel)
theorem w_402 : Cond.methodLink RX1 50 yX1_thicknessOf ∈ xAllW := xinT (List.mem_of_getElem? (i := 402) (by decide +kernel)) (by decide +kernel)
theorem w_403 : Cond.methodLink RX1 53 Lib.Math.min.name ∈ xAllW := xinT (List.mem_of_getElem? (i := 403) (by decide +kernel)) (by decide +kernel)
theorem w_404 : Cond.methodLink RX1 59 yX1_growLaid ∈ xAllW := xinT (List.mem_of_getElem? (i := 404) (by decide +kernel)) (by decide +kernel)
theorem w_406 : Cond.instanceMethod yX1_growLaid ∈ xAllW := xinT (List.mem_of_getElem? (i := 406) (by decide +kernel)) (by decide +kernel)
theorem w_407 : Cond.code yX1_growLaid cX1_growLaid 3 none ∈ xAllW := xinT (List.mem_of_getElem? (i := 407) (by decide +kernel)) (by decide +kernel)
theorem w_408 : Cond.methodLink RX4 107 yX4_finesDue ∈ xAllW := xinT (List.mem_of_getElem? (i := 408) (by decide +kernel)) (by decide +kernel)
theorem w_410 : Cond.instanceMethod yX4_finesDue ∈ xAllW := xinT (List.mem_of_getElem? (i := 410) (by decide +kernel)) (by decide +kernel)
theorem w_411 : Cond.code yX4_finesDue cX4_finesDue 3 (some .int) ∈ xAllW := xinT (List.mem_of_getElem? (i := 411) (by decide +kernel)) (by decide +kernel)
theorem w_412 : Cond.methodLink RX4 117 yX4_finePerWeek ∈ xAllW := xinT (List.mem_of_getElem? (i := 412) (by decide +kernel)) (by decide +kernel)
theorem w_414 : Cond.instanceMethod yX4_finePerWeek ∈ xAllW := xinT (List.mem_of_getElem? (i := 414) (by decide +kernel)) (by decide +kernel)
theorem w_415 : Cond.code yX4_finePerWeek cX4_finePerWeek 2 (some .int) ∈ xAllW := xinT (List.mem_of_getElem? (i := 415) (by decide +kernel)) (by decide +kernel)
theorem w_416 : Cond.methodLink RX4 111 yX4_spend ∈ xAllW := xinT (List.mem_of_getElem? (i := 416) (by decide +kernel)) (by decide +kernel)
theorem w_418 : Cond.instanceMethod yX4_spend ∈ xAllW := xinT (List.mem_of_getElem? (i := 418) (by decide +kernel)) (by decide +kernel)
theorem w_419 : Cond.code yX4_spend cX4_spend 3 none ∈ xAllW := xinT (List.mem_of_getElem? (i := 419) (by decide +kernel)) (by decide +kernel)
theorem w_420 : Cond.methodLink RX4 123 Lib.Math.min.name ∈ xAllW := xinT (List.mem_of_getElem? (i := 420) (by decide +kernel)) (by decide +kernel)
theorem w_421 : Cond.methodLink RL 36 yX8_set ∈ xAllW := xinT (List.mem_of_getElem? (i := 421) (by decide +kernel)) (by decide +kernel)
theorem w_422 : Cond.instanceMethod yX8_set ∈ xAllW := xinT (List.mem_of_getElem? (i := 422) (by decide +kernel)) (by decide +kernel)
theorem w_423 : Cond.selects RX8 yX8_set yX8_set ∈ xAllW := xinT (List.mem_of_getElem? (i := 423) (by decide +kernel)) (by decide +kernel)
theorem w_424 : Cond.code yX8_set cX8_set 4 (some .int) ∈ xAllW := xinT (List.mem_of_getElem? (i := 424) (by decide +kernel)) (by decide +kernel)
theorem w_425 : Cond.methodLink RX8 113 yX8_canBeSet ∈ xAllW := xinT (List.mem_of_getElem? (i := 425) (by decide +kernel)) (by decide +kernel)
theorem w_426 : Cond.static yX8_canBeSet ∈ xAllW := xinT (List.mem_of_getElem? (i := 426) (by decide +kernel)) (by decide +kernel)
theorem w_427 : Cond.code yX8_canBeSet cX8_canBeSet 2 (some .boolean) ∈ xAllW := xinT (List.mem_of_getElem? (i := 427) (by decide +kernel)) (by decide +kernel)
theorem w_430 : Cond.instanceMethod yX4_settingOf ∈ xAllW := xinT (List.mem_of_getElem? (i := 430) (by decide +kernel)) (by decide +kernel)
theorem w_431 : Cond.code yX4_settingOf cX4_settingOf 2 (some .int) ∈ xAllW := xinT (List.mem_of_getElem? (i := 431) (by decide +kernel)) (by decide +kernel)
theorem w_434 : Cond.instanceMethod yX4_changeSetting ∈ xAllW := xinT (List.mem_of_getElem? (i := 434) (by decide +kernel)) (by decide +kernel)
theorem w_435 : Cond.code yX4_changeSetting cX4_changeSetting 3 none ∈ xAllW := xinT (List.mem_of_getElem? (i := 435) (by decide +kernel)) (by decide +kernel)
theorem w_436 : Cond.methodLink RX4 129 Lib.Math.max.name ∈ xAllW := xinT (List.mem_of_getElem? (i := 436) (by decide +kernel)) (by decide +kernel)
theorem w_437 : Cond.static Lib.Math.max.name ∈ xAllW := xinT (List.mem_of_getElem? (i := 437) (by decide +kernel)) (by decide +kernel)
theorem w_438 : Cond.code Lib.Math.max.name Lib.Math.max.code 2 (some .int) ∈ xAllW := xinT (List.mem_of_getElem? (i := 438) (by decide +kernel)) (by decide +kernel)
theorem w_439 : Cond.methodLink RL 40 yX8_contract ∈ xAllW := xinT (List.mem_of_getElem? (i := 439) (by decide +kernel)) (by decide +kernel)
theorem w_440 : Cond.instanceMethod yX8_contract ∈ xAllW := xinT (List.mem_of_getElem? (i := 440) (by decide +kernel)) (by decide +kernel)
theorem w_441 : Cond.selects RX8 yX8_contract yX8_contract ∈ xAllW := xinT (List.mem_of_getElem? (i := 441) (by decide +kernel)) (by decide +kernel)
theorem w_442 : Cond.code yX8_contract cX8_contract 6 (some .int) ∈ xAllW := xinT (List.mem_of_getElem? (i := 442) (by decide +kernel)) (by decide +kernel)
theorem w_446 : Cond.instanceMethod yX0_make ∈ xAllW := xinT (List.mem_of_getElem? (i := 446) (by decide +kernel)) (by decide +kernel)
theorem w_447 : Cond.code yX0_make cX0_make 4 none ∈ xAllW := xinT (List.mem_of_getElem? (i := 447) (by decide +kernel)) (by decide +kernel)
theorem w_448 : Cond.methodLink RL 45 yX8_giveBack ∈ xAllW := xinT (List.mem_of_getElem? (i := 448) (by decide +kernel)) (by decide +kernel)
theorem w_449 : Cond.instanceMethod yX8_giveBack ∈ xAllW := xinT (List.mem_of_getElem? (i := 449) (by decide +kernel)) (by decide +kernel)
theorem w_450 : Cond.selects RX8 yX8_giveBack yX8_giveBack ∈ xAllW := xinT (List.mem_of_getElem? (i := 450) (by decide +kernel)) (by decide +kernel)
theorem w_451 : Cond.code yX8_giveBack cX8_giveBack 4 (some .int) ∈ xAllW := xinT (List.mem_of_getElem? (i := 451) (by decide +kernel)) (by decide +kernel)
theorem w_453 : Cond.methodLink RL 49 yX8_payDebt ∈ xAllW := xinT (List.mem_of_getElem? (i := 453) (by decide +kernel)) (by decide +kernel)
theorem w_454 : Cond.instanceMethod yX8_payDebt ∈ xAllW := xinT (List.mem_of_getElem? (i := 454) (by decide +kernel)) (by decide +kernel)
theorem w_455 : Cond.selects RX8 yX8_payDebt yX8_payDebt ∈ xAllW := xinT (List.mem_of_getElem? (i := 455) (by decide +kernel)) (by decide +kernel)
theorem w_456 : Cond.code yX8_payDebt cX8_payDebt 2 (some .int) ∈ xAllW := xinT (List.mem_of_getElem? (i := 456) (by decide +kernel)) (by decide +kernel)
theorem w_457 : Cond.methodLink RX8 155 Lib.Math.min.name ∈ xAllW := xinT (List.mem_of_getElem? (i := 457) (by decide +kernel)) (by decide +kernel)
theorem w_458 : Cond.methodLink RL 54 yX8_take ∈ xAllW := xinT (List.mem_of_getElem? (i := 458) (by decide +kernel)) (by decide +kernel)
theorem w_459 : Cond.instanceMethod yX8_take ∈ xAllW := xinT (List.mem_of_getElem? (i := 459) (by decide +kernel)) (by decide +kernel)
theorem w_460 : Cond.selects RX8 yX8_take yX8_take ∈ xAllW := xinT (List.mem_of_getElem? (i := 460) (by decide +kernel)) (by decide +kernel)
theorem w_461 : Cond.code yX8_take cX8_take 2 (some .int) ∈ xAllW := xinT (List.mem_of_getElem? (i := 461) (by decide +kernel)) (by decide +kernel)
theorem w_462 : Cond.methodLink RX8 161 yX8_isSlot ∈ xAllW := xinT (List.mem_of_getElem? (i := 462) (by decide +kernel)) (by decide +kernel)
theorem w_463 : Cond.static yX8_isSlot ∈ xAllW := xinT (List.mem_of_getElem? (i := 463) (by decide +kernel)) (by decide +kernel)
theorem w_464 : Cond.code yX8_isSlot cX8_isSlot 1 (some .boolean) ∈ xAllW := xinT (List.mem_of_getElem? (i := 464) (by decide +kernel)) (by decide +kernel)
theorem w_467 : Cond.instanceMethod yX6_fillSlot ∈ xAllW := xinT (List.mem_of_getElem? (i := 467) (by decide +kernel)) (by decide +kernel)
theorem w_468 : Cond.code yX6_fillSlot cX6_fillSlot 2 none ∈ xAllW := xinT (List.mem_of_getElem? (i := 468) (by decide +kernel)) (by decide +kernel)
theorem w_469 : Cond.methodLink RL 58 yX8_restore ∈ xAllW := xinT (List.mem_of_getElem? (i := 469) (by decide +kernel)) (by decide +kernel)
theorem w_470 : Cond.instanceMethod yX8_restore ∈ xAllW := xinT (List.mem_of_getElem? (i := 470) (by decide +kernel)) (by decide +kernel)
theorem w_471 : Cond.selects RX8 yX8_restore yX8_restore ∈ xAllW := xinT (List.mem_of_getElem? (i := 471) (by decide +kernel)) (by decide +kernel)
theorem w_472 : Cond.code yX8_restore cX8_restore 2 (some .int) ∈ xAllW := xinT (List.mem_of_getElem? (i := 472) (by decide +kernel)) (by decide +kernel)
theorem w_474 : Cond.methodLink RL 62 yX8_undo ∈ xAllW := xinT (List.mem_of_getElem? (i := 474) (by decide +kernel)) (by decide +kernel)
theorem w_475 : Cond.instanceMethod yX8_undo ∈ xAllW := xinT (List.mem_of_getElem? (i := 475) (by decide +kernel)) (by decide +kernel)
theorem w_476 : Cond.selects RX8 yX8_undo yX8_undo ∈ xAllW := xinT (List.mem_of_getElem? (i := 476) (by decide +kernel)) (by decide +kernel)
theorem w_477 : Cond.code yX8_undo cX8_undo 1 (some .int) ∈ xAllW := xinT (List.mem_of_getElem? (i := 477) (by decide +kernel)) (by decide +kernel)
theorem w_480 : Cond.instanceMethod yX3_bringBack ∈ xAllW := xinT (List.mem_of_getElem? (i := 480) (by decide +kernel)) (by decide +kernel)
theorem w_481 : Cond.code yX3_bringBack cX3_bringBack 2 none ∈ xAllW := xinT (List.mem_of_getElem? (i := 481) (by decide +kernel)) (by decide +kernel)
theorem w_482 : Cond.methodLink RL 66 yX8_append ∈ xAllW := xinT (List.mem_of_getElem? (i := 482) (by decide +kernel)) (by decide +kernel)
theorem w_483 : Cond.instanceMethod yX8_append ∈ xAllW := xinT (List.mem_of_getElem? (i := 483) (by decide +kernel)) (by decide +kernel)
theorem w_484 : Cond.selects RX8 yX8_append yX8_append ∈ xAllW := xinT (List.mem_of_getElem? (i := 484) (by decide +kernel)) (by decide +kernel)
theorem w_485 : Cond.code yX8_append cX8_append 2 (some .int) ∈ xAllW := xinT (List.mem_of_getElem? (i := 485) (by decide +kernel)) (by decide +kernel)
theorem w_488 : Cond.instanceMethod yX7_addSign ∈ xAllW := xinT (List.mem_of_getElem? (i := 488) (by decide +kernel)) (by decide +kernel)
theorem w_489 : Cond.code yX7_addSign cX7_addSign 2 none ∈ xAllW := xinT (List.mem_of_getElem? (i := 489) (by decide +kernel)) (by decide +kernel)
theorem w_490 : Cond.methodLink RL 70 yX8_clearText ∈ xAllW := xinT (List.mem_of_getElem? (i := 490) (by decide +kernel)) (by decide +kernel)
theorem w_491 : Cond.instanceMethod yX8_clearText ∈ xAllW := xinT (List.mem_of_getElem? (i := 491) (by decide +kernel)) (by decide +kernel)
theorem w_492 : Cond.selects RX8 yX8_clearText yX8_clearText ∈ xAllW := xinT (List.mem_of_getElem? (i := 492) (by decide +kernel)) (by decide +kernel)
theorem w_493 : Cond.code yX8_clearText cX8_clearText 2 (some .int) ∈ xAllW := xinT (List.mem_of_getElem? (i := 493) (by decide +kernel)) (by decide +kernel)
theorem w_494 : Cond.methodLink RL 74 yX8_read ∈ xAllW := xinT (List.mem_of_getElem? (i := 494) (by decide +kernel)) (by decide +kernel)
theorem w_495 : Cond.instanceMethod yX8_read ∈ xAllW := xinT (List.mem_of_getElem? (i := 495) (by decide +kernel)) (by decide +kernel)
theorem w_496 : Cond.selects RX8 yX8_read yX8_read ∈ xAllW := xinT (List.mem_of_getElem? (i := 496) (by decide +kernel)) (by decide +kernel)
theorem w_497 : Cond.code yX8_read cX8_read 3 (some .int) ∈ xAllW := xinT (List.mem_of_getElem? (i := 497) (by decide +kernel)) (by decide +kernel)
theorem w_500 : Cond.instanceMethod yX2_faultOf ∈ xAllW := xinT (List.mem_of_getElem? (i := 500) (by decide +kernel)) (by decide +kernel)
theorem w_501 : Cond.code yX2_faultOf cX2_faultOf 3 (some .int) ∈ xAllW := xinT (List.mem_of_getElem? (i := 501) (by decide +kernel)) (by decide +kernel)
theorem w_502 : Cond.methodLink RX2 28 yX2_readPart ∈ xAllW := xinT (List.mem_of_getElem? (i := 502) (by decide +kernel)) (by decide +kernel)
theorem w_504 : Cond.instanceMethod yX2_readPart ∈ xAllW := xinT (List.mem_of_getElem? (i := 504) (by decide +kernel)) (by decide +kernel)
theorem w_505 : Cond.code yX2_readPart cX2_readPart 5 (some .boolean) ∈ xAllW := xinT (List.mem_of_getElem? (i := 505) (by decide +kernel)) (by decide +kernel)
theorem w_508 : Cond.instanceMethod yX7_signAt ∈ xAllW := xinT (List.mem_of_getElem? (i := 508) (by decide +kernel)) (by decide +kernel)
theorem w_509 : Cond.code yX7_signAt cX7_signAt 2 (some .char) ∈ xAllW := xinT (List.mem_of_getElem? (i := 509) (by decide +kernel)) (by decide +kernel)
theorem w_510 : Cond.methodLink RX2 39 yX2_kindFor ∈ xAllW := xinT (List.mem_of_getElem? (i := 510) (by decide +kernel)) (by decide +kernel)
theorem w_511 : Cond.static yX2_kindFor ∈ xAllW := xinT (List.mem_of_getElem? (i := 511) (by decide +kernel)) (by decide +kernel)
theorem w_512 : Cond.code yX2_kindFor cX2_kindFor 1 (some .int) ∈ xAllW := xinT (List.mem_of_getElem? (i := 512) (by decide +kernel)) (by decide +kernel)
theorem w_513 : Cond.methodLink RX2 43 yX2_digitFor ∈ xAllW := xinT (List.mem_of_getElem? (i := 513) (by decide +kernel)) (by decide +kernel)
theorem w_514 : Cond.static yX2_digitFor ∈ xAllW := xinT (List.mem_of_getElem? (i := 514) (by decide +kernel)) (by decide +kernel)
theorem w_515 : Cond.code yX2_digitFor cX2_digitFor 1 (some .int) ∈ xAllW := xinT (List.mem_of_getElem? (i := 515) (by decide +kernel)) (by decide +kernel)
theorem w_516 : Cond.methodLink RX2 46 yX2_readNumber ∈ xAllW := xinT (List.mem_of_getElem? (i := 516) (by decide +kernel)) (by decide +kernel)
theorem w_518 : Cond.instanceMethod yX2_readNumber ∈ xAllW := xinT (List.mem_of_getElem? (i := 518) (by decide +kernel)) (by decide +kernel)
theorem w_519 : Cond.code yX2_readNumber cX2_readNumber 3 (some .int) ∈ xAllW := xinT (List.mem_of_getElem? (i := 519) (by decide +kernel)) (by decide +kernel)
theorem w_523 : Cond.instanceMethod yX4_replaceHedge ∈ xAllW := xinT (List.mem_of_getElem? (i := 523) (by decide +kernel)) (by decide +kernel)
theorem w_524 : Cond.code yX4_replaceHedge cX4_replaceHedge 3 none ∈ xAllW := xinT (List.mem_of_getElem? (i := 524) (by decide +kernel)) (by decide +kernel)
theorem w_525 : Cond.methodLink RL 78 yX8_count ∈ xAllW := xinT (List.mem_of_getElem? (i := 525) (by decide +kernel)) (by decide +kernel)
theorem w_526 : Cond.instanceMethod yX8_count ∈ xAllW := xinT (List.mem_of_getElem? (i := 526) (by decide +kernel)) (by decide +kernel)
theorem w_527 : Cond.selects RX8 yX8_count yX8_count ∈ xAllW := xinT (List.mem_of_getElem? (i := 527) (by decide +kernel)) (by decide +kernel)
theorem w_528 : Cond.code yX8_count cX8_count 2 (some .int) ∈ xAllW := xinT (List.mem_of_getElem? (i := 528) (by decide +kernel)) (by decide +kernel)
theorem w_531 : Cond.instanceMethod yX4_numberOfContracts ∈ xAllW := xinT (List.mem_of_getElem? (i := 531) (by decide +kernel)) (by decide +kernel)
theorem w_532 : Cond.code yX4_numberOfContracts cX4_numberOfContracts 3 (some .int) ∈ xAllW := xinT (List.mem_of_getElem? (i := 532) (by decide +kernel)) (by decide +kernel)
theorem w_535 : Cond.instanceMethod yX6_numberOfSnapshots ∈ xAllW := xinT (List.mem_of_getElem? (i := 535) (by decide +kernel)) (by decide +kernel)
theorem w_536 : Cond.code yX6_numberOfSnapshots cX6_numberOfSnapshots 3 (some .int) ∈ xAllW := xinT (List.mem_of_getElem? (i := 536) (by decide +kernel)) (by decide +kernel)
theorem w_537 : Cond.methodLink RL 82 yX8_field ∈ xAllW := xinT (List.mem_of_getElem? (i := 537) (by decide +kernel)) (by decide +kernel)
theorem w_538 : Cond.instanceMethod yX8_field ∈ xAllW := xinT (List.mem_of_getElem? (i := 538) (by decide +kernel)) (by decide +kernel)
theorem w_539 : Cond.selects RX8 yX8_field yX8_field ∈ xAllW := xinT (List.mem_of_getElem? (i := 539) (by decide +kernel)) (by decide +kernel)
theorem w_540 : Cond.code yX8_field cX8_field 5 (some .int) ∈ xAllW := xinT (List.mem_of_getElem? (i := 540) (by decide +kernel)) (by decide +kernel)
theorem w_543 : Cond.instanceMethod yX1_longestRunBegin ∈ xAllW := xinT (List.mem_of_getElem? (i := 543) (by decide +kernel)) (by decide +kernel)
theorem w_544 : Cond.code yX1_longestRunBegin cX1_longestRunBegin 5 (some .int) ∈ xAllW := xinT (List.mem_of_getElem? (i := 544) (by decide +kernel)) (by decide +kernel)
theorem w_545 : Cond.methodLink RX1 43 yX1_runFrom ∈ xAllW := xinT (List.mem_of_getElem? (i := 545) (by decide +kernel)) (by decide +kernel)
theorem w_547 : Cond.instanceMethod yX1_runFrom ∈ xAllW := xinT (List.mem_of_getElem? (i := 547) (by decide +kernel)) (by decide +kernel)
theorem w_548 : Cond.code yX1_runFrom cX1_runFrom 3 (some .int) ∈ xAllW := xinT (List.mem_of_getElem? (i := 548) (by decide +kernel)) (by decide +kernel)
theorem w_550 : Cond.methodLink RL 86 yX8_chain ∈ xAllW := xinT (List.mem_of_getElem? (i := 550) (by decide +kernel)) (by decide +kernel)
theorem w_551 : Cond.instanceMethod yX8_chain ∈ xAllW := xinT (List.mem_of_getElem? (i := 551) (by decide +kernel)) (by decide +kernel)
theorem w_552 : Cond.selects RX8 yX8_chain yX8_chain ∈ xAllW := xinT (List.mem_of_getElem? (i := 552) (by decide +kernel)) (by decide +kernel)
theorem w_553 : Cond.code yX8_chain cX8_chain 5 (some .int) ∈ xAllW := xinT (List.mem_of_getElem? (i := 553) (by decide +kernel)) (by decide +kernel)
theorem w_556 : Cond.methodLink RL 90 yX8_toLay ∈ xAllW := xinT (List.mem_of_getElem? (i := 556) (by decide +kernel)) (by decide +kernel)
theorem w_557 : Cond.instanceMethod yX8_toLay ∈ xAllW := xinT (List.mem_of_getElem? (i := 557) (by decide +kernel)) (by decide +kernel)
theorem w_558 : Cond.selects RX8 yX8_toLay yX8_toLay ∈ xAllW := xinT (List.mem_of_getElem? (i := 558) (by decide +kernel)) (by decide +kernel)
theorem w_559 : Cond.code yX8_toLay cX8_toLay 4 (some .int) ∈ xAllW := xinT (List.mem_of_getElem? (i := 559) (by decide +kernel)) (by decide +kernel)
theorem w_562 : Cond.instanceMethod yX1_workToLay ∈ xAllW := xinT (List.mem_of_getElem? (i := 562) (by decide +kernel)) (by decide +kernel)
theorem w_563 : Cond.code yX1_workToLay cX1_workToLay 3 (some .int) ∈ xAllW := xinT (List.mem_of_getElem? (i := 563) (by decide +kernel)) (by decide +kernel)
theorem w_564 : Cond.methodLink RX1 65 yX1_isToLay ∈ xAllW := xinT (List.mem_of_getElem? (i := 564) (by decide +kernel)) (by decide +kernel)
theorem w_567 : Cond.instanceMethod yX1_stakesToLay ∈ xAllW := xinT (List.mem_of_getElem? (i := 567) (by decide +kernel)) (by decide +kernel)
theorem w_568 : Cond.code yX1_stakesToLay cX1_stakesToLay 3 (some .int) ∈ xAllW := xinT (List.mem_of_getElem? (i := 568) (by decide +kernel)) (by decide +kernel)
theorem w_569 : Cond.methodLink RL 94 yX8_stakesIn ∈ xAllW := xinT (List.mem_of_getElem? (i := 569) (by decide +kernel)) (by decide +kernel)
theorem w_570 : Cond.instanceMethod yX8_stakesIn ∈ xAllW := xinT (List.mem_of_getElem? (i := 570) (by decide +kernel)) (by decide +kernel)
theorem w_571 : Cond.selects RX8 yX8_stakesIn yX8_stakesIn ∈ xAllW := xinT (List.mem_of_getElem? (i := 571) (by decide +kernel)) (by decide +kernel)
theorem w_572 : Cond.code yX8_stakesIn cX8_stakesIn 2 (some .int) ∈ xAllW := xinT (List.mem_of_getElem? (i := 572) (by decide +kernel)) (by decide +kernel)
theorem w_575 : Cond.instanceMethod yX1_stakesToCut ∈ xAllW := xinT (List.mem_of_getElem? (i := 575) (by decide +kernel)) (by decide +kernel)
theorem w_576 : Cond.code yX1_stakesToCut cX1_stakesToCut 3 (some .int) ∈ xAllW := xinT (List.mem_of_getElem? (i := 576) (by decide +kernel)) (by decide +kernel)
theorem w_577 : Cond.methodLink RX1 68 yX1_stakesOf ∈ xAllW := xinT (List.mem_of_getElem? (i := 577) (by decide +kernel)) (by decide +kernel)
theorem w_578 : Cond.static yX1_stakesOf ∈ xAllW := xinT (List.mem_of_getElem? (i := 578) (by decide +kernel)) (by decide +kernel)
theorem w_579 : Cond.code yX1_stakesOf cX1_stakesOf 3 (some .int) ∈ xAllW := xinT (List.mem_of_getElem? (i := 579) (by decide +kernel)) (by decide +kernel)
theorem w_580 : Cond.methodLink RL 98 yX8_doneIn ∈ xAllW := xinT (List.mem_of_getElem? (i := 580) (by decide +kernel)) (by decide +kernel)
theorem w_581 : Cond.instanceMethod yX8_doneIn ∈ xAllW := xinT (List.mem_of_getElem? (i := 581) (by decide +kernel)) (by decide +kernel)
theorem w_582 : Cond.selects RX8 yX8_doneIn yX8_doneIn ∈ xAllW := xinT (List.mem_of_getElem? (i := 582) (by decide +kernel)) (by decide +kernel)
theorem w_583 : Cond.code yX8_doneIn cX8_doneIn 2 (some .int) ∈ xAllW := xinT (List.mem_of_getElem? (i := 583) (by decide +kernel)) (by decide +kernel)
theorem w_586 : Cond.instanceMethod yX4_weeksUntilLaid ∈ xAllW := xinT (List.mem_of_getElem? (i := 586) (by decide +kernel)) (by decide +kernel)
theorem w_587 : Cond.code yX4_weeksUntilLaid cX4_weeksUntilLaid 7 (some .int) ∈ xAllW := xinT (List.mem_of_getElem? (i := 587) (by decide +kernel)) (by decide +kernel)
theorem w_588 : Cond.methodLink RX4 132 yX4_workAfter ∈ xAllW := xinT (List.mem_of_getElem? (i := 588) (by decide +kernel)) (by decide +kernel)
theorem w_590 : Cond.instanceMethod yX4_workAfter ∈ xAllW := xinT (List.mem_of_getElem? (i := 590) (by decide +kernel)) (by decide +kernel)
theorem w_591 : Cond.code yX4_workAfter cX4_workAfter 2 (some .int) ∈ xAllW := xinT (List.mem_of_getElem? (i := 591) (by decide +kernel)) (by decide +kernel)
theorem w_592 : Cond.methodLink RX4 138 yX4_isClosed ∈ xAllW := xinT (List.mem_of_getElem? (i := 592) (by decide +kernel)) (by decide +kernel)
theorem w_593 : Cond.methodLink RL 102 yX8_bestOrder ∈ xAllW := xinT (List.mem_of_getElem? (i := 593) (by decide +kernel)) (by decide +kernel)
theorem w_594 : Cond.instanceMethod yX8_bestOrder ∈ xAllW := xinT (List.mem_of_getElem? (i := 594) (by decide +kernel)) (by decide +kernel)
theorem w_595 : Cond.selects RX8 yX8_bestOrder yX8_bestOrder ∈ xAllW := xinT (List.mem_of_getElem? (i := 595) (by decide +kernel)) (by decide +kernel)
theorem w_596 : Cond.code yX8_bestOrder cX8_bestOrder 2 (some .int) ∈ xAllW := xinT (List.mem_of_getElem? (i := 596) (by decide +kernel)) (by decide +kernel)
theorem w_599 : Cond.instanceMethod yX5_reckon ∈ xAllW := xinT (List.mem_of_getElem? (i := 599) (by decide +kernel)) (by decide +kernel)
theorem w_600 : Cond.code yX5_reckon cX5_reckon 3 none ∈ xAllW := xinT (List.mem_of_getElem? (i := 600) (by decide +kernel)) (by decide +kernel)
theorem w_601 : Cond.methodLink RX5 24 yX5_lookAt ∈ xAllW := xinT (List.mem_of_getElem? (i := 601) (by decide +kernel)) (by decide +kernel)
theorem w_603 : Cond.instanceMethod yX5_lookAt ∈ xAllW := xinT (List.mem_of_getElem? (i := 603) (by decide +kernel)) (by decide +kernel)
theorem w_604 : Cond.code yX5_lookAt cX5_lookAt 3 none ∈ xAllW := xinT (List.mem_of_getElem? (i := 604) (by decide +kernel)) (by decide +kernel)
theorem w_607 : Cond.instanceMethod yX4_weeksOfWork ∈ xAllW := xinT (List.mem_of_getElem? (i := 607) (by decide +kernel)) (by decide +kernel)
theorem w_608 : Cond.code yX4_weeksOfWork cX4_weeksOfWork 2 (some .int) ∈ xAllW := xinT (List.mem_of_getElem? (i := 608) (by decide +kernel)) (by decide +kernel)
theorem w_611 : Cond.methodLink RX5 32 yX5_leastOf ∈ xAllW := xinT (List.mem_of_getElem? (i := 611) (by decide +kernel)) (by decide +kernel)
theorem w_613 : Cond.instanceMethod yX5_leastOf ∈ xAllW := xinT (List.mem_of_getElem? (i := 613) (by decide +kernel)) (by decide +kernel)
theorem w_614 : Cond.code yX5_leastOf cX5_leastOf 4 (some .int) ∈ xAllW := xinT (List.mem_of_getElem? (i := 614) (by decide +kernel)) (by decide +kernel)
theorem w_615 : Cond.constant "HedgeChains$Orders" 65 2147483647 ∈ xAllW := xinT (List.mem_of_getElem? (i := 615) (by decide +kernel)) (by decide +kernel)
theorem w_616 : Cond.methodLink RX5 66 yX5_isIn ∈ xAllW := xinT (List.mem_of_getElem? (i := 616) (by decide +kernel)) (by decide +kernel)
theorem w_617 : Cond.static yX5_isIn ∈ xAllW := xinT (List.mem_of_getElem? (i := 617) (by decide +kernel)) (by decide +kernel)
theorem w_618 : Cond.code yX5_isIn cX5_isIn 2 (some .boolean) ∈ xAllW := xinT (List.mem_of_getElem? (i := 618) (by decide +kernel)) (by decide +kernel)
theorem w_619 : Cond.methodLink RX5 70 yX5_finesIfNext ∈ xAllW := xinT (List.mem_of_getElem? (i := 619) (by decide +kernel)) (by decide +kernel)
theorem w_621 : Cond.instanceMethod yX5_finesIfNext ∈ xAllW := xinT (List.mem_of_getElem? (i := 621) (by decide +kernel)) (by decide +kernel)
theorem w_622 : Cond.code yX5_finesIfNext cX5_finesIfNext 5 (some .int) ∈ xAllW := xinT (List.mem_of_getElem? (i := 622) (by decide +kernel)) (by decide +kernel)
theorem w_623 : Cond.methodLink RX5 79 Lib.Math.max.name ∈ xAllW := xinT (List.mem_of_getElem? (i := 623) (by decide +kernel)) (by decide +kernel)
theorem w_624 : Cond.methodLink RX5 74 Lib.Math.min.name ∈ xAllW := xinT (List.mem_of_getElem? (i := 624) (by decide +kernel)) (by decide +kernel)
theorem w_627 : Cond.instanceMethod yX5_leastFines ∈ xAllW := xinT (List.mem_of_getElem? (i := 627) (by decide +kernel)) (by decide +kernel)
theorem w_628 : Cond.code yX5_leastFines cX5_leastFines 1 (some .int) ∈ xAllW := xinT (List.mem_of_getElem? (i := 628) (by decide +kernel)) (by decide +kernel)
theorem w_631 : Cond.instanceMethod yX5_firstField ∈ xAllW := xinT (List.mem_of_getElem? (i := 631) (by decide +kernel)) (by decide +kernel)
theorem w_632 : Cond.code yX5_firstField cX5_firstField 2 (some .int) ∈ xAllW := xinT (List.mem_of_getElem? (i := 632) (by decide +kernel)) (by decide +kernel)
theorem w_633 : Cond.classLink RL 10 RX9 ∈ xAllW := xinT (List.mem_of_getElem? (i := 633) (by decide +kernel)) (by decide +kernel)
theorem w_634 : Cond.instantiable RX9 11 ∈ xAllW := xinT (List.mem_of_getElem? (i := 634) (by decide +kernel)) (by decide +kernel)
theorem w_635 : Cond.methodLink RL 12 yX9_init ∈ xAllW := xinT (List.mem_of_getElem? (i := 635) (by decide +kernel)) (by decide +kernel)
theorem w_636 : Cond.instanceMethod yX9_init ∈ xAllW := xinT (List.mem_of_getElem? (i := 636) (by decide +kernel)) (by decide +kernel)
theorem w_637 : Cond.code yX9_init cX9_init 3 none ∈ xAllW := xinT (List.mem_of_getElem? (i := 637) (by decide +kernel)) (by decide +kernel)
theorem w_638 : Cond.methodLink RX9 1 objectInit ∈ xAllW := xinT (List.mem_of_getElem? (i := 638) (by decide +kernel)) (by decide +kernel)
theorem w_639 : Cond.methodLink RX9 25 yX9_lays ∈ xAllW := xinT (List.mem_of_getElem? (i := 639) (by decide +kernel)) (by decide +kernel)
theorem w_641 : Cond.instanceMethod yX9_lays ∈ xAllW := xinT (List.mem_of_getElem? (i := 641) (by decide +kernel)) (by decide +kernel)
theorem w_642 : Cond.code yX9_lays cX9_lays 5 none ∈ xAllW := xinT (List.mem_of_getElem? (i := 642) (by decide +kernel)) (by decide +kernel)
theorem w_643 : Cond.fieldLink "HedgeChainsModel" 7 "HedgeChainsModel" "s" "[I" ∈ xAllW := xinT (List.mem_of_getElem? (i := 643) (by decide +kernel)) (by decide +kernel)
theorem w_644 : Cond.fieldLink "HedgeChainsModel" 13 "HedgeChainsModel" "was" "[I" ∈ xAllW := xinT (List.mem_of_getElem? (i := 644) (by decide +kernel)) (by decide +kernel)
theorem w_645 : Cond.fieldLink "HedgeChainsModel" 16 "HedgeChainsModel" "begun" "[I" ∈ xAllW := xinT (List.mem_of_getElem? (i := 645) (by decide +kernel)) (by decide +kernel)
theorem w_646 : Cond.fieldLink "HedgeChainsModel" 19 "HedgeChainsModel" "least" "[I" ∈ xAllW := xinT (List.mem_of_getElem? (i := 646) (by decide +kernel)) (by decide +kernel)
theorem w_647 : Cond.fieldLink "HedgeChainsModel" 41 "HedgeChainsModel" "states" "I" ∈ xAllW := xinT (List.mem_of_getElem? (i := 647) (by decide +kernel)) (by decide +kernel)
theorem w_648 : Cond.fieldLink "HedgeChainsModel" 22 "HedgeChainsModel" "text" "[I" ∈ xAllW := xinT (List.mem_of_getElem? (i := 648) (by decide +kernel)) (by decide +kernel)
theorem w_649 : Cond.fieldLink "HedgeChainsModel" 89 "HedgeChainsModel" "typed" "I" ∈ xAllW := xinT (List.mem_of_getElem? (i := 649) (by decide +kernel)) (by decide +kernel)
theorem w_650 : Cond.fieldLink "HedgeChainsModel" 92 "HedgeChainsModel" "at" "I" ∈ xAllW := xinT (List.mem_of_getElem? (i := 650) (by decide +kernel)) (by decide +kernel)
theorem w_651 : Cond.fieldLink "HedgeChainsModel" 98 "HedgeChainsModel" "kind" "I" ∈ xAllW := xinT (List.mem_of_getElem? (i := 651) (by decide +kernel)) (by decide +kernel)
theorem w_652 : Cond.fieldLink "HedgeChainsModel" 101 "HedgeChainsModel" "thick" "I" ∈ xAllW := xinT (List.mem_of_getElem? (i := 652) (by decide +kernel)) (by decide +kernel)
theorem w_653 : Cond.fieldLink "HedgeChainsModel" 104 "HedgeChainsModel" "many" "I" ∈ xAllW := xinT (List.mem_of_getElem? (i := 653) (by decide +kernel)) (by decide +kernel)
theorem w_654 : Cond.laysFinal "HedgeChainsModel" "HedgeChainsModel" "s" "[I" ∈ xAllW := xinT (List.mem_of_getElem? (i := 654) (by decide +kernel)) (by decide +kernel)
theorem w_656 : Cond.laysFinal "HedgeChainsModel" "HedgeChainsModel" "was" "[I" ∈ xAllW := xinT (List.mem_of_getElem? (i := 656) (by decide +kernel)) (by decide +kernel)
theorem w_658 : Cond.laysFinal "HedgeChainsModel" "HedgeChainsModel" "begun" "[I" ∈ xAllW := xinT (List.mem_of_getElem? (i := 658) (by decide +kernel)) (by decide +kernel)
theorem w_660 : Cond.laysFinal "HedgeChainsModel" "HedgeChainsModel" "least" "[I" ∈ xAllW := xinT (List.mem_of_getElem? (i := 660) (by decide +kernel)) (by decide +kernel)
theorem w_662 : Cond.lays "HedgeChainsModel" "HedgeChainsModel" "states" "I" ∈ xAllW := xinT (List.mem_of_getElem? (i := 662) (by decide +kernel)) (by decide +kernel)
theorem w_664 : Cond.laysFinal "HedgeChainsModel" "HedgeChainsModel" "text" "[I" ∈ xAllW := xinT (List.mem_of_getElem? (i := 664) (by decide +kernel)) (by decide +kernel)
theorem w_666 : Cond.lays "HedgeChainsModel" "HedgeChainsModel" "typed" "I" ∈ xAllW := xinT (List.mem_of_getElem? (i := 666) (by decide +kernel)) (by decide +kernel)
theorem w_668 : Cond.lays "HedgeChainsModel" "HedgeChainsModel" "at" "I" ∈ xAllW := xinT (List.mem_of_getElem? (i := 668) (by decide +kernel)) (by decide +kernel)
theorem w_670 : Cond.lays "HedgeChainsModel" "HedgeChainsModel" "kind" "I" ∈ xAllW := xinT (List.mem_of_getElem? (i := 670) (by decide +kernel)) (by decide +kernel)
theorem w_672 : Cond.lays "HedgeChainsModel" "HedgeChainsModel" "thick" "I" ∈ xAllW := xinT (List.mem_of_getElem? (i := 672) (by decide +kernel)) (by decide +kernel)
theorem w_674 : Cond.lays "HedgeChainsModel" "HedgeChainsModel" "many" "I" ∈ xAllW := xinT (List.mem_of_getElem? (i := 674) (by decide +kernel)) (by decide +kernel)
theorem w_677 : Cond.methodLink RL 17 yX9_lay ∈ xAllW := xinT (List.mem_of_getElem? (i := 677) (by decide +kernel)) (by decide +kernel)
theorem w_678 : Cond.instanceMethod yX9_lay ∈ xAllW := xinT (List.mem_of_getElem? (i := 678) (by decide +kernel)) (by decide +kernel)
theorem w_679 : Cond.selects RX9 yX9_lay yX9_lay ∈ xAllW := xinT (List.mem_of_getElem? (i := 679) (by decide +kernel)) (by decide +kernel)
theorem w_680 : Cond.code yX9_lay cX9_lay 6 (some .int) ∈ xAllW := xinT (List.mem_of_getElem? (i := 680) (by decide +kernel)) (by decide +kernel)
theorem w_681 : Cond.methodLink RX9 51 yX9_isChain ∈ xAllW := xinT (List.mem_of_getElem? (i := 681) (by decide +kernel)) (by decide +kernel)
theorem w_683 : Cond.instanceMethod yX9_isChain ∈ xAllW := xinT (List.mem_of_getElem? (i := 683) (by decide +kernel)) (by decide +kernel)
theorem w_684 : Cond.code yX9_isChain cX9_isChain 3 (some .boolean) ∈ xAllW := xinT (List.mem_of_getElem? (i := 684) (by decide +kernel)) (by decide +kernel)
theorem w_685 : Cond.methodLink RX9 33 yX9_isField ∈ xAllW := xinT (List.mem_of_getElem? (i := 685) (by decide +kernel)) (by decide +kernel)
theorem w_686 : Cond.static yX9_isField ∈ xAllW := xinT (List.mem_of_getElem? (i := 686) (by decide +kernel)) (by decide +kernel)
theorem w_687 : Cond.code yX9_isField cX9_isField 1 (some .boolean) ∈ xAllW := xinT (List.mem_of_getElem? (i := 687) (by decide +kernel)) (by decide +kernel)
theorem w_688 : Cond.methodLink RX9 29 yX9_in ∈ xAllW := xinT (List.mem_of_getElem? (i := 688) (by decide +kernel)) (by decide +kernel)
theorem w_689 : Cond.static yX9_in ∈ xAllW := xinT (List.mem_of_getElem? (i := 689) (by decide +kernel)) (by decide +kernel)
theorem w_690 : Cond.code yX9_in cX9_in 3 (some .boolean) ∈ xAllW := xinT (List.mem_of_getElem? (i := 690) (by decide +kernel)) (by decide +kernel)
theorem w_691 : Cond.methodLink RX9 55 yX9_isClosed ∈ xAllW := xinT (List.mem_of_getElem? (i := 691) (by decide +kernel)) (by decide +kernel)
theorem w_693 : Cond.instanceMethod yX9_isClosed ∈ xAllW := xinT (List.mem_of_getElem? (i := 693) (by decide +kernel)) (by decide +kernel)
theorem w_694 : Cond.code yX9_isClosed cX9_isClosed 3 (some .boolean) ∈ xAllW := xinT (List.mem_of_getElem? (i := 694) (by decide +kernel)) (by decide +kernel)
theorem w_695 : Cond.methodLink RX9 58 yX9_canLay ∈ xAllW := xinT (List.mem_of_getElem? (i := 695) (by decide +kernel)) (by decide +kernel)
theorem w_697 : Cond.instanceMethod yX9_canLay ∈ xAllW := xinT (List.mem_of_getElem? (i := 697) (by decide +kernel)) (by decide +kernel)
theorem w_698 : Cond.code yX9_canLay cX9_canLay 4 (some .boolean) ∈ xAllW := xinT (List.mem_of_getElem? (i := 698) (by decide +kernel)) (by decide +kernel)
theorem w_699 : Cond.methodLink RX9 48 yX9_thickness ∈ xAllW := xinT (List.mem_of_getElem? (i := 699) (by decide +kernel)) (by decide +kernel)
theorem w_701 : Cond.instanceMethod yX9_thickness ∈ xAllW := xinT (List.mem_of_getElem? (i := 701) (by decide +kernel)) (by decide +kernel)
theorem w_702 : Cond.code yX9_thickness cX9_thickness 3 (some .int) ∈ xAllW := xinT (List.mem_of_getElem? (i := 702) (by decide +kernel)) (by decide +kernel)
theorem w_703 : Cond.methodLink RX9 37 yX9_kindOf ∈ xAllW := xinT (List.mem_of_getElem? (i := 703) (by decide +kernel)) (by decide +kernel)
theorem w_705 : Cond.instanceMethod yX9_kindOf ∈ xAllW := xinT (List.mem_of_getElem? (i := 705) (by decide +kernel)) (by decide +kernel)
theorem w_706 : Cond.code yX9_kindOf cX9_kindOf 3 (some .int) ∈ xAllW := xinT (List.mem_of_getElem? (i := 706) (by decide +kernel)) (by decide +kernel)
theorem w_707 : Cond.methodLink RX9 61 yX9_keeps ∈ xAllW := xinT (List.mem_of_getElem? (i := 707) (by decide +kernel)) (by decide +kernel)
theorem w_709 : Cond.instanceMethod yX9_keeps ∈ xAllW := xinT (List.mem_of_getElem? (i := 709) (by decide +kernel)) (by decide +kernel)
theorem w_710 : Cond.code yX9_keeps cX9_keeps 2 none ∈ xAllW := xinT (List.mem_of_getElem? (i := 710) (by decide +kernel)) (by decide +kernel)
theorem w_711 : Cond.methodLink RX9 64 yX9_con ∈ xAllW := xinT (List.mem_of_getElem? (i := 711) (by decide +kernel)) (by decide +kernel)
theorem w_713 : Cond.instanceMethod yX9_con ∈ xAllW := xinT (List.mem_of_getElem? (i := 713) (by decide +kernel)) (by decide +kernel)
theorem w_714 : Cond.code yX9_con cX9_con 3 (some .int) ∈ xAllW := xinT (List.mem_of_getElem? (i := 714) (by decide +kernel)) (by decide +kernel)
theorem w_715 : Cond.methodLink RX9 67 yX9_ends ∈ xAllW := xinT (List.mem_of_getElem? (i := 715) (by decide +kernel)) (by decide +kernel)
theorem w_717 : Cond.instanceMethod yX9_ends ∈ xAllW := xinT (List.mem_of_getElem? (i := 717) (by decide +kernel)) (by decide +kernel)
theorem w_718 : Cond.code yX9_ends cX9_ends 3 none ∈ xAllW := xinT (List.mem_of_getElem? (i := 718) (by decide +kernel)) (by decide +kernel)
theorem w_719 : Cond.methodLink RX9 45 yX9_ofKind ∈ xAllW := xinT (List.mem_of_getElem? (i := 719) (by decide +kernel)) (by decide +kernel)
theorem w_721 : Cond.instanceMethod yX9_ofKind ∈ xAllW := xinT (List.mem_of_getElem? (i := 721) (by decide +kernel)) (by decide +kernel)
theorem w_722 : Cond.code yX9_ofKind cX9_ofKind 5 (some .int) ∈ xAllW := xinT (List.mem_of_getElem? (i := 722) (by decide +kernel)) (by decide +kernel)
theorem w_723 : Cond.methodLink RX9 71 yX9_acted ∈ xAllW := xinT (List.mem_of_getElem? (i := 723) (by decide +kernel)) (by decide +kernel)
theorem w_725 : Cond.instanceMethod yX9_acted ∈ xAllW := xinT (List.mem_of_getElem? (i := 725) (by decide +kernel)) (by decide +kernel)
theorem w_726 : Cond.code yX9_acted cX9_acted 3 (some .int) ∈ xAllW := xinT (List.mem_of_getElem? (i := 726) (by decide +kernel)) (by decide +kernel)
theorem w_727 : Cond.methodLink RL 22 yX9_cut ∈ xAllW := xinT (List.mem_of_getElem? (i := 727) (by decide +kernel)) (by decide +kernel)
theorem w_728 : Cond.instanceMethod yX9_cut ∈ xAllW := xinT (List.mem_of_getElem? (i := 728) (by decide +kernel)) (by decide +kernel)
theorem w_729 : Cond.selects RX9 yX9_cut yX9_cut ∈ xAllW := xinT (List.mem_of_getElem? (i := 729) (by decide +kernel)) (by decide +kernel)
theorem w_730 : Cond.code yX9_cut cX9_cut 4 (some .int) ∈ xAllW := xinT (List.mem_of_getElem? (i := 730) (by decide +kernel)) (by decide +kernel)
theorem w_731 : Cond.methodLink RL 26 yX9_plant ∈ xAllW := xinT (List.mem_of_getElem? (i := 731) (by decide +kernel)) (by decide +kernel)
theorem w_732 : Cond.instanceMethod yX9_plant ∈ xAllW := xinT (List.mem_of_getElem? (i := 732) (by decide +kernel)) (by decide +kernel)
theorem w_733 : Cond.selects RX9 yX9_plant yX9_plant ∈ xAllW := xinT (List.mem_of_getElem? (i := 733) (by decide +kernel)) (by decide +kernel)
theorem w_734 : Cond.code yX9_plant cX9_plant 3 (some .int) ∈ xAllW := xinT (List.mem_of_getElem? (i := 734) (by decide +kernel)) (by decide +kernel)
theorem w_735 : Cond.methodLink RL 30 yX9_grub ∈ xAllW := xinT (List.mem_of_getElem? (i := 735) (by decide +kernel)) (by decide +kernel)
theorem w_736 : Cond.instanceMethod yX9_grub ∈ xAllW := xinT (List.mem_of_getElem? (i := 736) (by decide +kernel)) (by decide +kernel)
theorem w_737 : Cond.selects RX9 yX9_grub yX9_grub ∈ xAllW := xinT (List.mem_of_getElem? (i := 737) (by decide +kernel)) (by decide +kernel)
theorem w_738 : Cond.code yX9_grub cX9_grub 4 (some .int) ∈ xAllW := xinT (List.mem_of_getElem? (i := 738) (by decide +kernel)) (by decide +kernel)
theorem w_739 : Cond.methodLink RL 35 yX9_pass ∈ xAllW := xinT (List.mem_of_getElem? (i := 739) (by decide +kernel)) (by decide +kernel)
theorem w_740 : Cond.instanceMethod yX9_pass ∈ xAllW := xinT (List.mem_of_getElem? (i := 740) (by decide +kernel)) (by decide +kernel)
theorem w_741 : Cond.selects RX9 yX9_pass yX9_pass ∈ xAllW := xinT (List.mem_of_getElem? (i := 741) (by decide +kernel)) (by decide +kernel)
theorem w_742 : Cond.code yX9_pass cX9_pass 4 (some .int) ∈ xAllW := xinT (List.mem_of_getElem? (i := 742) (by decide +kernel)) (by decide +kernel)
theorem w_743 : Cond.methodLink RX9 85 yX9_passesOne ∈ xAllW := xinT (List.mem_of_getElem? (i := 743) (by decide +kernel)) (by decide +kernel)
theorem w_745 : Cond.instanceMethod yX9_passesOne ∈ xAllW := xinT (List.mem_of_getElem? (i := 745) (by decide +kernel)) (by decide +kernel)
theorem w_746 : Cond.code yX9_passesOne cX9_passesOne 4 (some .int) ∈ xAllW := xinT (List.mem_of_getElem? (i := 746) (by decide +kernel)) (by decide +kernel)
theorem w_747 : Cond.methodLink RX9 78 yX9_grows ∈ xAllW := xinT (List.mem_of_getElem? (i := 747) (by decide +kernel)) (by decide +kernel)
theorem w_749 : Cond.instanceMethod yX9_grows ∈ xAllW := xinT (List.mem_of_getElem? (i := 749) (by decide +kernel)) (by decide +kernel)
theorem w_750 : Cond.code yX9_grows cX9_grows 5 none ∈ xAllW := xinT (List.mem_of_getElem? (i := 750) (by decide +kernel)) (by decide +kernel)
theorem w_751 : Cond.methodLink RX9 75 yX9_age ∈ xAllW := xinT (List.mem_of_getElem? (i := 751) (by decide +kernel)) (by decide +kernel)
theorem w_753 : Cond.instanceMethod yX9_age ∈ xAllW := xinT (List.mem_of_getElem? (i := 753) (by decide +kernel)) (by decide +kernel)
theorem w_754 : Cond.code yX9_age cX9_age 3 (some .int) ∈ xAllW := xinT (List.mem_of_getElem? (i := 754) (by decide +kernel)) (by decide +kernel)
theorem w_755 : Cond.methodLink RX9 82 yX9_pays ∈ xAllW := xinT (List.mem_of_getElem? (i := 755) (by decide +kernel)) (by decide +kernel)
theorem w_757 : Cond.instanceMethod yX9_pays ∈ xAllW := xinT (List.mem_of_getElem? (i := 757) (by decide +kernel)) (by decide +kernel)
theorem w_758 : Cond.code yX9_pays cX9_pays 3 none ∈ xAllW := xinT (List.mem_of_getElem? (i := 758) (by decide +kernel)) (by decide +kernel)
theorem w_759 : Cond.methodLink RL 39 yX9_set ∈ xAllW := xinT (List.mem_of_getElem? (i := 759) (by decide +kernel)) (by decide +kernel)
theorem w_760 : Cond.instanceMethod yX9_set ∈ xAllW := xinT (List.mem_of_getElem? (i := 760) (by decide +kernel)) (by decide +kernel)
theorem w_761 : Cond.selects RX9 yX9_set yX9_set ∈ xAllW := xinT (List.mem_of_getElem? (i := 761) (by decide +kernel)) (by decide +kernel)
theorem w_762 : Cond.code yX9_set cX9_set 5 (some .int) ∈ xAllW := xinT (List.mem_of_getElem? (i := 762) (by decide +kernel)) (by decide +kernel)
theorem w_763 : Cond.methodLink RL 44 yX9_contract ∈ xAllW := xinT (List.mem_of_getElem? (i := 763) (by decide +kernel)) (by decide +kernel)
theorem w_764 : Cond.instanceMethod yX9_contract ∈ xAllW := xinT (List.mem_of_getElem? (i := 764) (by decide +kernel)) (by decide +kernel)
theorem w_765 : Cond.selects RX9 yX9_contract yX9_contract ∈ xAllW := xinT (List.mem_of_getElem? (i := 765) (by decide +kernel)) (by decide +kernel)
theorem w_766 : Cond.code yX9_contract cX9_contract 6 (some .int) ∈ xAllW := xinT (List.mem_of_getElem? (i := 766) (by decide +kernel)) (by decide +kernel)
theorem w_767 : Cond.methodLink RL 48 yX9_giveBack ∈ xAllW := xinT (List.mem_of_getElem? (i := 767) (by decide +kernel)) (by decide +kernel)
theorem w_768 : Cond.instanceMethod yX9_giveBack ∈ xAllW := xinT (List.mem_of_getElem? (i := 768) (by decide +kernel)) (by decide +kernel)
theorem w_769 : Cond.selects RX9 yX9_giveBack yX9_giveBack ∈ xAllW := xinT (List.mem_of_getElem? (i := 769) (by decide +kernel)) (by decide +kernel)
theorem w_770 : Cond.code yX9_giveBack cX9_giveBack 4 (some .int) ∈ xAllW := xinT (List.mem_of_getElem? (i := 770) (by decide +kernel)) (by decide +kernel)
theorem w_771 : Cond.methodLink RL 53 yX9_payDebt ∈ xAllW := xinT (List.mem_of_getElem? (i := 771) (by decide +kernel)) (by decide +kernel)
theorem w_772 : Cond.instanceMethod yX9_payDebt ∈ xAllW := xinT (List.mem_of_getElem? (i := 772) (by decide +kernel)) (by decide +kernel)
theorem w_773 : Cond.selects RX9 yX9_payDebt yX9_payDebt ∈ xAllW := xinT (List.mem_of_getElem? (i := 773) (by decide +kernel)) (by decide +kernel)
theorem w_774 : Cond.code yX9_payDebt cX9_payDebt 2 (some .int) ∈ xAllW := xinT (List.mem_of_getElem? (i := 774) (by decide +kernel)) (by decide +kernel)
theorem w_775 : Cond.methodLink RL 57 yX9_take ∈ xAllW := xinT (List.mem_of_getElem? (i := 775) (by decide +kernel)) (by decide +kernel)
theorem w_776 : Cond.instanceMethod yX9_take ∈ xAllW := xinT (List.mem_of_getElem? (i := 776) (by decide +kernel)) (by decide +kernel)
theorem w_777 : Cond.selects RX9 yX9_take yX9_take ∈ xAllW := xinT (List.mem_of_getElem? (i := 777) (by decide +kernel)) (by decide +kernel)
theorem w_778 : Cond.code yX9_take cX9_take 4 (some .int) ∈ xAllW := xinT (List.mem_of_getElem? (i := 778) (by decide +kernel)) (by decide +kernel)
theorem w_779 : Cond.methodLink RL 61 yX9_restore ∈ xAllW := xinT (List.mem_of_getElem? (i := 779) (by decide +kernel)) (by decide +kernel)
theorem w_780 : Cond.instanceMethod yX9_restore ∈ xAllW := xinT (List.mem_of_getElem? (i := 780) (by decide +kernel)) (by decide +kernel)
theorem w_781 : Cond.selects RX9 yX9_restore yX9_restore ∈ xAllW := xinT (List.mem_of_getElem? (i := 781) (by decide +kernel)) (by decide +kernel)
theorem w_782 : Cond.code yX9_restore cX9_restore 4 (some .int) ∈ xAllW := xinT (List.mem_of_getElem? (i := 782) (by decide +kernel)) (by decide +kernel)
theorem w_783 : Cond.methodLink RL 65 yX9_undo ∈ xAllW := xinT (List.mem_of_getElem? (i := 783) (by decide +kernel)) (by decide +kernel)
theorem w_784 : Cond.instanceMethod yX9_undo ∈ xAllW := xinT (List.mem_of_getElem? (i := 784) (by decide +kernel)) (by decide +kernel)
theorem w_785 : Cond.selects RX9 yX9_undo yX9_undo ∈ xAllW := xinT (List.mem_of_getElem? (i := 785) (by decide +kernel)) (by decide +kernel)
theorem w_786 : Cond.code yX9_undo cX9_undo 2 (some .int) ∈ xAllW := xinT (List.mem_of_getElem? (i := 786) (by decide +kernel)) (by decide +kernel)
theorem w_787 : Cond.methodLink RL 69 yX9_append ∈ xAllW := xinT (List.mem_of_getElem? (i := 787) (by decide +kernel)) (by decide +kernel)
theorem w_788 : Cond.instanceMethod yX9_append ∈ xAllW := xinT (List.mem_of_getElem? (i := 788) (by decide +kernel)) (by decide +kernel)
theorem w_789 : Cond.selects RX9 yX9_append yX9_append ∈ xAllW := xinT (List.mem_of_getElem? (i := 789) (by decide +kernel)) (by decide +kernel)
theorem w_790 : Cond.code yX9_append cX9_append 2 (some .int) ∈ xAllW := xinT (List.mem_of_getElem? (i := 790) (by decide +kernel)) (by decide +kernel)
theorem w_791 : Cond.methodLink RL 73 yX9_clearText ∈ xAllW := xinT (List.mem_of_getElem? (i := 791) (by decide +kernel)) (by decide +kernel)
theorem w_792 : Cond.instanceMethod yX9_clearText ∈ xAllW := xinT (List.mem_of_getElem? (i := 792) (by decide +kernel)) (by decide +kernel)
theorem w_793 : Cond.selects RX9 yX9_clearText yX9_clearText ∈ xAllW := xinT (List.mem_of_getElem? (i := 793) (by decide +kernel)) (by decide +kernel)
theorem w_794 : Cond.code yX9_clearText cX9_clearText 2 (some .int) ∈ xAllW := xinT (List.mem_of_getElem? (i := 794) (by decide +kernel)) (by decide +kernel)
theorem w_795 : Cond.methodLink RL 77 yX9_read ∈ xAllW := xinT (List.mem_of_getElem? (i := 795) (by decide +kernel)) (by decide +kernel)
theorem w_796 : Cond.instanceMethod yX9_read ∈ xAllW := xinT (List.mem_of_getElem? (i := 796) (by decide +kernel)) (by decide +kernel)
theorem w_797 : Cond.selects RX9 yX9_read yX9_read ∈ xAllW := xinT (List.mem_of_getElem? (i := 797) (by decide +kernel)) (by decide +kernel)
theorem w_798 : Cond.code yX9_read cX9_read 4 (some .int) ∈ xAllW := xinT (List.mem_of_getElem? (i := 798) (by decide +kernel)) (by decide +kernel)
theorem w_799 : Cond.methodLink RX9 111 yX9_chains ∈ xAllW := xinT (List.mem_of_getElem? (i := 799) (by decide +kernel)) (by decide +kernel)
theorem w_801 : Cond.instanceMethod yX9_chains ∈ xAllW := xinT (List.mem_of_getElem? (i := 801) (by decide +kernel)) (by decide +kernel)
theorem w_802 : Cond.code yX9_chains cX9_chains 3 (some .int) ∈ xAllW := xinT (List.mem_of_getElem? (i := 802) (by decide +kernel)) (by decide +kernel)
theorem w_803 : Cond.methodLink RX9 107 yX9_readsPart ∈ xAllW := xinT (List.mem_of_getElem? (i := 803) (by decide +kernel)) (by decide +kernel)
theorem w_805 : Cond.instanceMethod yX9_readsPart ∈ xAllW := xinT (List.mem_of_getElem? (i := 805) (by decide +kernel)) (by decide +kernel)
theorem w_806 : Cond.code yX9_readsPart cX9_readsPart 2 (some .boolean) ∈ xAllW := xinT (List.mem_of_getElem? (i := 806) (by decide +kernel)) (by decide +kernel)
theorem w_807 : Cond.methodLink RX9 95 yX9_sign ∈ xAllW := xinT (List.mem_of_getElem? (i := 807) (by decide +kernel)) (by decide +kernel)
theorem w_809 : Cond.instanceMethod yX9_sign ∈ xAllW := xinT (List.mem_of_getElem? (i := 809) (by decide +kernel)) (by decide +kernel)
theorem w_810 : Cond.code yX9_sign cX9_sign 1 (some .int) ∈ xAllW := xinT (List.mem_of_getElem? (i := 810) (by decide +kernel)) (by decide +kernel)
theorem w_811 : Cond.methodLink RL 81 yX9_count ∈ xAllW := xinT (List.mem_of_getElem? (i := 811) (by decide +kernel)) (by decide +kernel)
theorem w_812 : Cond.instanceMethod yX9_count ∈ xAllW := xinT (List.mem_of_getElem? (i := 812) (by decide +kernel)) (by decide +kernel)
theorem w_813 : Cond.selects RX9 yX9_count yX9_count ∈ xAllW := xinT (List.mem_of_getElem? (i := 813) (by decide +kernel)) (by decide +kernel)
theorem w_814 : Cond.code yX9_count cX9_count 2 (some .int) ∈ xAllW := xinT (List.mem_of_getElem? (i := 814) (by decide +kernel)) (by decide +kernel)
theorem w_815 : Cond.methodLink RX9 114 yX9_contracts ∈ xAllW := xinT (List.mem_of_getElem? (i := 815) (by decide +kernel)) (by decide +kernel)
theorem w_817 : Cond.instanceMethod yX9_contracts ∈ xAllW := xinT (List.mem_of_getElem? (i := 817) (by decide +kernel)) (by decide +kernel)
theorem w_818 : Cond.code yX9_contracts cX9_contracts 3 (some .int) ∈ xAllW := xinT (List.mem_of_getElem? (i := 818) (by decide +kernel)) (by decide +kernel)
theorem w_819 : Cond.methodLink RL 85 yX9_field ∈ xAllW := xinT (List.mem_of_getElem? (i := 819) (by decide +kernel)) (by decide +kernel)
theorem w_820 : Cond.instanceMethod yX9_field ∈ xAllW := xinT (List.mem_of_getElem? (i := 820) (by decide +kernel)) (by decide +kernel)
theorem w_821 : Cond.selects RX9 yX9_field yX9_field ∈ xAllW := xinT (List.mem_of_getElem? (i := 821) (by decide +kernel)) (by decide +kernel)
theorem w_822 : Cond.code yX9_field cX9_field 5 (some .int) ∈ xAllW := xinT (List.mem_of_getElem? (i := 822) (by decide +kernel)) (by decide +kernel)
theorem w_823 : Cond.methodLink RX9 117 yX9_longest ∈ xAllW := xinT (List.mem_of_getElem? (i := 823) (by decide +kernel)) (by decide +kernel)
theorem w_825 : Cond.instanceMethod yX9_longest ∈ xAllW := xinT (List.mem_of_getElem? (i := 825) (by decide +kernel)) (by decide +kernel)
theorem w_826 : Cond.code yX9_longest cX9_longest 6 (some .int) ∈ xAllW := xinT (List.mem_of_getElem? (i := 826) (by decide +kernel)) (by decide +kernel)
theorem w_827 : Cond.methodLink RL 89 yX9_chain ∈ xAllW := xinT (List.mem_of_getElem? (i := 827) (by decide +kernel)) (by decide +kernel)
theorem w_828 : Cond.instanceMethod yX9_chain ∈ xAllW := xinT (List.mem_of_getElem? (i := 828) (by decide +kernel)) (by decide +kernel)
theorem w_829 : Cond.selects RX9 yX9_chain yX9_chain ∈ xAllW := xinT (List.mem_of_getElem? (i := 829) (by decide +kernel)) (by decide +kernel)
theorem w_830 : Cond.code yX9_chain cX9_chain 4 (some .int) ∈ xAllW := xinT (List.mem_of_getElem? (i := 830) (by decide +kernel)) (by decide +kernel)
theorem w_831 : Cond.methodLink RL 93 yX9_toLay ∈ xAllW := xinT (List.mem_of_getElem? (i := 831) (by decide +kernel)) (by decide +kernel)
theorem w_832 : Cond.instanceMethod yX9_toLay ∈ xAllW := xinT (List.mem_of_getElem? (i := 832) (by decide +kernel)) (by decide +kernel)
theorem w_833 : Cond.selects RX9 yX9_toLay yX9_toLay ∈ xAllW := xinT (List.mem_of_getElem? (i := 833) (by decide +kernel)) (by decide +kernel)
theorem w_834 : Cond.code yX9_toLay cX9_toLay 5 (some .int) ∈ xAllW := xinT (List.mem_of_getElem? (i := 834) (by decide +kernel)) (by decide +kernel)
theorem w_835 : Cond.methodLink RX9 120 yX9_takes ∈ xAllW := xinT (List.mem_of_getElem? (i := 835) (by decide +kernel)) (by decide +kernel)
theorem w_837 : Cond.instanceMethod yX9_takes ∈ xAllW := xinT (List.mem_of_getElem? (i := 837) (by decide +kernel)) (by decide +kernel)
theorem w_838 : Cond.code yX9_takes cX9_takes 4 (some .int) ∈ xAllW := xinT (List.mem_of_getElem? (i := 838) (by decide +kernel)) (by decide +kernel)
theorem w_839 : Cond.methodLink RX9 123 yX9_workOf ∈ xAllW := xinT (List.mem_of_getElem? (i := 839) (by decide +kernel)) (by decide +kernel)
theorem w_841 : Cond.instanceMethod yX9_workOf ∈ xAllW := xinT (List.mem_of_getElem? (i := 841) (by decide +kernel)) (by decide +kernel)
theorem w_842 : Cond.code yX9_workOf cX9_workOf 4 (some .int) ∈ xAllW := xinT (List.mem_of_getElem? (i := 842) (by decide +kernel)) (by decide +kernel)
theorem w_843 : Cond.methodLink RL 97 yX9_stakesIn ∈ xAllW := xinT (List.mem_of_getElem? (i := 843) (by decide +kernel)) (by decide +kernel)
theorem w_844 : Cond.instanceMethod yX9_stakesIn ∈ xAllW := xinT (List.mem_of_getElem? (i := 844) (by decide +kernel)) (by decide +kernel)
theorem w_845 : Cond.selects RX9 yX9_stakesIn yX9_stakesIn ∈ xAllW := xinT (List.mem_of_getElem? (i := 845) (by decide +kernel)) (by decide +kernel)
theorem w_846 : Cond.code yX9_stakesIn cX9_stakesIn 5 (some .int) ∈ xAllW := xinT (List.mem_of_getElem? (i := 846) (by decide +kernel)) (by decide +kernel)
theorem w_847 : Cond.methodLink RL 101 yX9_doneIn ∈ xAllW := xinT (List.mem_of_getElem? (i := 847) (by decide +kernel)) (by decide +kernel)
theorem w_848 : Cond.instanceMethod yX9_doneIn ∈ xAllW := xinT (List.mem_of_getElem? (i := 848) (by decide +kernel)) (by decide +kernel)
theorem w_849 : Cond.selects RX9 yX9_doneIn yX9_doneIn ∈ xAllW := xinT (List.mem_of_getElem? (i := 849) (by decide +kernel)) (by decide +kernel)
theorem w_850 : Cond.code yX9_doneIn cX9_doneIn 6 (some .int) ∈ xAllW := xinT (List.mem_of_getElem? (i := 850) (by decide +kernel)) (by decide +kernel)
theorem w_851 : Cond.methodLink RL 105 yX9_bestOrder ∈ xAllW := xinT (List.mem_of_getElem? (i := 851) (by decide +kernel)) (by decide +kernel)
theorem w_852 : Cond.instanceMethod yX9_bestOrder ∈ xAllW := xinT (List.mem_of_getElem? (i := 852) (by decide +kernel)) (by decide +kernel)
theorem w_853 : Cond.selects RX9 yX9_bestOrder yX9_bestOrder ∈ xAllW := xinT (List.mem_of_getElem? (i := 853) (by decide +kernel)) (by decide +kernel)
theorem w_854 : Cond.code yX9_bestOrder cX9_bestOrder 7 (some .int) ∈ xAllW := xinT (List.mem_of_getElem? (i := 854) (by decide +kernel)) (by decide +kernel)
theorem w_855 : Cond.methodLink RX9 129 yX9_costs ∈ xAllW := xinT (List.mem_of_getElem? (i := 855) (by decide +kernel)) (by decide +kernel)
theorem w_857 : Cond.instanceMethod yX9_costs ∈ xAllW := xinT (List.mem_of_getElem? (i := 857) (by decide +kernel)) (by decide +kernel)
theorem w_858 : Cond.code yX9_costs cX9_costs 5 (some .int) ∈ xAllW := xinT (List.mem_of_getElem? (i := 858) (by decide +kernel)) (by decide +kernel)
theorem w_859 : Cond.methodLink RX9 126 yX9_weeksOf ∈ xAllW := xinT (List.mem_of_getElem? (i := 859) (by decide +kernel)) (by decide +kernel)
theorem w_861 : Cond.instanceMethod yX9_weeksOf ∈ xAllW := xinT (List.mem_of_getElem? (i := 861) (by decide +kernel)) (by decide +kernel)
theorem w_862 : Cond.code yX9_weeksOf cX9_weeksOf 2 (some .int) ∈ xAllW := xinT (List.mem_of_getElem? (i := 862) (by decide +kernel)) (by decide +kernel)
theorem ws_0 : Cond.selects RX1 yX1_addChains yX1_addChains ∈ xAllW := xinS (q := (yX1_addChains, 4)) (List.mem_of_getElem? (i := 0) (by decide +kernel))
theorem ws_1 : Cond.selects RX1 yX1_changeChain yX1_changeChain ∈ xAllW := xinS (q := (yX1_changeChain, 4)) (List.mem_of_getElem? (i := 1) (by decide +kernel))
theorem ws_2 : Cond.selects RX1 yX1_has yX1_has ∈ xAllW := xinS (q := (yX1_has, 4)) (List.mem_of_getElem? (i := 2) (by decide +kernel))
theorem ws_3 : Cond.selects RX8 yX8_isChain yX8_isChain ∈ xAllW := xinS (q := (yX8_isChain, 6)) (List.mem_of_getElem? (i := 3) (by decide +kernel))
theorem ws_4 : Cond.selects RX4 yX4_isClosed yX4_isClosed ∈ xAllW := xinS (q := (yX4_isClosed, 14)) (List.mem_of_getElem? (i := 4) (by decide +kernel))
theorem ws_5 : Cond.selects RX4 yX4_canLay yX4_canLay ∈ xAllW := xinS (q := (yX4_canLay, 14)) (List.mem_of_getElem? (i := 5) (by decide +kernel))
theorem ws_6 : Cond.selects RX1 yX1_isToLay yX1_isToLay ∈ xAllW := xinS (q := (yX1_isToLay, 4)) (List.mem_of_getElem? (i := 6) (by decide +kernel))
theorem ws_7 : Cond.selects RX1 yX1_thicknessOf yX1_thicknessOf ∈ xAllW := xinS (q := (yX1_thicknessOf, 4)) (List.mem_of_getElem? (i := 7) (by decide +kernel))
theorem ws_8 : Cond.selects RX3 yX3_keep yX3_keep ∈ xAllW := xinS (q := (yX3_keep, 3)) (List.mem_of_getElem? (i := 8) (by decide +kernel))
theorem ws_9 : Cond.selects RX6 yX6_copyFrom yX6_copyFrom ∈ xAllW := xinS (q := (yX6_copyFrom, 3)) (List.mem_of_getElem? (i := 9) (by decide +kernel))
theorem ws_10 : Cond.selects RX4 yX4_copyFrom yX4_copyFrom ∈ xAllW := xinS (q := (yX4_copyFrom, 14)) (List.mem_of_getElem? (i := 10) (by decide +kernel))
theorem ws_11 : Cond.selects RX1 yX1_copyFrom yX1_copyFrom ∈ xAllW := xinS (q := (yX1_copyFrom, 4)) (List.mem_of_getElem? (i := 11) (by decide +kernel))
theorem ws_12 : Cond.selects RX0 yX0_copyFrom yX0_copyFrom ∈ xAllW := xinS (q := (yX0_copyFrom, 4)) (List.mem_of_getElem? (i := 12) (by decide +kernel))
theorem ws_13 : Cond.selects RX4 yX4_layChain yX4_layChain ∈ xAllW := xinS (q := (yX4_layChain, 14)) (List.mem_of_getElem? (i := 13) (by decide +kernel))
theorem ws_14 : Cond.selects RX4 yX4_endContractIfNoneStands yX4_endContractIfNoneStands ∈ xAllW := xinS (q := (yX4_endContractIfNoneStands, 14)) (List.mem_of_getElem? (i := 14) (by decide +kernel))
theorem ws_15 : Cond.selects RX1 yX1_numberOf yX1_numberOf ∈ xAllW := xinS (q := (yX1_numberOf, 4)) (List.mem_of_getElem? (i := 15) (by decide +kernel))
theorem ws_16 : Cond.selects RX1 yX1_kindOf yX1_kindOf ∈ xAllW := xinS (q := (yX1_kindOf, 4)) (List.mem_of_getElem? (i := 16) (by decide +kernel))
theorem ws_17 : Cond.selects RX4 yX4_canCut yX4_canCut ∈ xAllW := xinS (q := (yX4_canCut, 14)) (List.mem_of_getElem? (i := 17) (by decide +kernel))
theorem ws_18 : Cond.selects RX1 yX1_isToCut yX1_isToCut ∈ xAllW := xinS (q := (yX1_isToCut, 4)) (List.mem_of_getElem? (i := 18) (by decide +kernel))
theorem ws_19 : Cond.selects RX4 yX4_cutChain yX4_cutChain ∈ xAllW := xinS (q := (yX4_cutChain, 14)) (List.mem_of_getElem? (i := 19) (by decide +kernel))
theorem ws_20 : Cond.selects RX4 yX4_canPlant yX4_canPlant ∈ xAllW := xinS (q := (yX4_canPlant, 14)) (List.mem_of_getElem? (i := 20) (by decide +kernel))
theorem ws_21 : Cond.selects RX4 yX4_plantChain yX4_plantChain ∈ xAllW := xinS (q := (yX4_plantChain, 14)) (List.mem_of_getElem? (i := 21) (by decide +kernel))
theorem ws_22 : Cond.selects RX4 yX4_grubChain yX4_grubChain ∈ xAllW := xinS (q := (yX4_grubChain, 14)) (List.mem_of_getElem? (i := 22) (by decide +kernel))
theorem ws_23 : Cond.selects RX4 yX4_passWeek yX4_passWeek ∈ xAllW := xinS (q := (yX4_passWeek, 14)) (List.mem_of_getElem? (i := 23) (by decide +kernel))
theorem ws_24 : Cond.selects RX1 yX1_grow yX1_grow ∈ xAllW := xinS (q := (yX1_grow, 4)) (List.mem_of_getElem? (i := 24) (by decide +kernel))
theorem ws_25 : Cond.selects RX1 yX1_growOlder yX1_growOlder ∈ xAllW := xinS (q := (yX1_growOlder, 4)) (List.mem_of_getElem? (i := 25) (by decide +kernel))
theorem ws_26 : Cond.selects RX1 yX1_ageOf yX1_ageOf ∈ xAllW := xinS (q := (yX1_ageOf, 4)) (List.mem_of_getElem? (i := 26) (by decide +kernel))
theorem ws_27 : Cond.selects RX1 yX1_growLaid yX1_growLaid ∈ xAllW := xinS (q := (yX1_growLaid, 4)) (List.mem_of_getElem? (i := 27) (by decide +kernel))
theorem ws_28 : Cond.selects RX4 yX4_finesDue yX4_finesDue ∈ xAllW := xinS (q := (yX4_finesDue, 14)) (List.mem_of_getElem? (i := 28) (by decide +kernel))
theorem ws_29 : Cond.selects RX4 yX4_finePerWeek yX4_finePerWeek ∈ xAllW := xinS (q := (yX4_finePerWeek, 14)) (List.mem_of_getElem? (i := 29) (by decide +kernel))
theorem ws_30 : Cond.selects RX4 yX4_spend yX4_spend ∈ xAllW := xinS (q := (yX4_spend, 14)) (List.mem_of_getElem? (i := 30) (by decide +kernel))
theorem ws_31 : Cond.selects RX4 yX4_settingOf yX4_settingOf ∈ xAllW := xinS (q := (yX4_settingOf, 14)) (List.mem_of_getElem? (i := 31) (by decide +kernel))
theorem ws_32 : Cond.selects RX4 yX4_changeSetting yX4_changeSetting ∈ xAllW := xinS (q := (yX4_changeSetting, 14)) (List.mem_of_getElem? (i := 32) (by decide +kernel))
theorem ws_33 : Cond.selects RX0 yX0_make yX0_make ∈ xAllW := xinS (q := (yX0_make, 4)) (List.mem_of_getElem? (i := 33) (by decide +kernel))
theorem ws_34 : Cond.selects RX6 yX6_fillSlot yX6_fillSlot ∈ xAllW := xinS (q := (yX6_fillSlot, 3)) (List.mem_of_getElem? (i := 34) (by decide +kernel))
theorem ws_35 : Cond.selects RX3 yX3_bringBack yX3_bringBack ∈ xAllW := xinS (q := (yX3_bringBack, 3)) (List.mem_of_getElem? (i := 35) (by decide +kernel))
theorem ws_36 : Cond.selects RX7 yX7_addSign yX7_addSign ∈ xAllW := xinS (q := (yX7_addSign, 2)) (List.mem_of_getElem? (i := 36) (by decide +kernel))
theorem ws_37 : Cond.selects RX2 yX2_faultOf yX2_faultOf ∈ xAllW := xinS (q := (yX2_faultOf, 3)) (List.mem_of_getElem? (i := 37) (by decide +kernel))
theorem ws_38 : Cond.selects RX2 yX2_readPart yX2_readPart ∈ xAllW := xinS (q := (yX2_readPart, 3)) (List.mem_of_getElem? (i := 38) (by decide +kernel))
theorem ws_39 : Cond.selects RX7 yX7_signAt yX7_signAt ∈ xAllW := xinS (q := (yX7_signAt, 2)) (List.mem_of_getElem? (i := 39) (by decide +kernel))
theorem ws_40 : Cond.selects RX2 yX2_readNumber yX2_readNumber ∈ xAllW := xinS (q := (yX2_readNumber, 3)) (List.mem_of_getElem? (i := 40) (by decide +kernel))
theorem ws_41 : Cond.selects RX4 yX4_replaceHedge yX4_replaceHedge ∈ xAllW := xinS (q := (yX4_replaceHedge, 14)) (List.mem_of_getElem? (i := 41) (by decide +kernel))
theorem ws_42 : Cond.selects RX4 yX4_numberOfContracts yX4_numberOfContracts ∈ xAllW := xinS (q := (yX4_numberOfContracts, 14)) (List.mem_of_getElem? (i := 42) (by decide +kernel))
theorem ws_43 : Cond.selects RX6 yX6_numberOfSnapshots yX6_numberOfSnapshots ∈ xAllW := xinS (q := (yX6_numberOfSnapshots, 3)) (List.mem_of_getElem? (i := 43) (by decide +kernel))
theorem ws_44 : Cond.selects RX1 yX1_longestRunBegin yX1_longestRunBegin ∈ xAllW := xinS (q := (yX1_longestRunBegin, 4)) (List.mem_of_getElem? (i := 44) (by decide +kernel))
theorem ws_45 : Cond.selects RX1 yX1_runFrom yX1_runFrom ∈ xAllW := xinS (q := (yX1_runFrom, 4)) (List.mem_of_getElem? (i := 45) (by decide +kernel))
theorem ws_46 : Cond.selects RX1 yX1_workToLay yX1_workToLay ∈ xAllW := xinS (q := (yX1_workToLay, 4)) (List.mem_of_getElem? (i := 46) (by decide +kernel))
theorem ws_47 : Cond.selects RX1 yX1_stakesToLay yX1_stakesToLay ∈ xAllW := xinS (q := (yX1_stakesToLay, 4)) (List.mem_of_getElem? (i := 47) (by decide +kernel))
theorem ws_48 : Cond.selects RX1 yX1_stakesToCut yX1_stakesToCut ∈ xAllW := xinS (q := (yX1_stakesToCut, 4)) (List.mem_of_getElem? (i := 48) (by decide +kernel))
theorem ws_49 : Cond.selects RX4 yX4_weeksUntilLaid yX4_weeksUntilLaid ∈ xAllW := xinS (q := (yX4_weeksUntilLaid, 14)) (List.mem_of_getElem? (i := 49) (by decide +kernel))
theorem ws_50 : Cond.selects RX4 yX4_workAfter yX4_workAfter ∈ xAllW := xinS (q := (yX4_workAfter, 14)) (List.mem_of_getElem? (i := 50) (by decide +kernel))
theorem ws_51 : Cond.selects RX5 yX5_reckon yX5_reckon ∈ xAllW := xinS (q := (yX5_reckon, 6)) (List.mem_of_getElem? (i := 51) (by decide +kernel))
theorem ws_52 : Cond.selects RX5 yX5_lookAt yX5_lookAt ∈ xAllW := xinS (q := (yX5_lookAt, 6)) (List.mem_of_getElem? (i := 52) (by decide +kernel))
theorem ws_53 : Cond.selects RX4 yX4_weeksOfWork yX4_weeksOfWork ∈ xAllW := xinS (q := (yX4_weeksOfWork, 14)) (List.mem_of_getElem? (i := 53) (by decide +kernel))
theorem ws_54 : Cond.selects RX5 yX5_leastOf yX5_leastOf ∈ xAllW := xinS (q := (yX5_leastOf, 6)) (List.mem_of_getElem? (i := 54) (by decide +kernel))
theorem ws_55 : Cond.selects RX5 yX5_finesIfNext yX5_finesIfNext ∈ xAllW := xinS (q := (yX5_finesIfNext, 6)) (List.mem_of_getElem? (i := 55) (by decide +kernel))
theorem ws_56 : Cond.selects RX5 yX5_leastFines yX5_leastFines ∈ xAllW := xinS (q := (yX5_leastFines, 6)) (List.mem_of_getElem? (i := 56) (by decide +kernel))
theorem ws_57 : Cond.selects RX5 yX5_firstField yX5_firstField ∈ xAllW := xinS (q := (yX5_firstField, 6)) (List.mem_of_getElem? (i := 57) (by decide +kernel))
theorem ws_58 : Cond.selects RX9 yX9_lays yX9_lays ∈ xAllW := xinS (q := (yX9_lays, 11)) (List.mem_of_getElem? (i := 58) (by decide +kernel))
theorem ws_59 : Cond.selects RX9 yX9_isChain yX9_isChain ∈ xAllW := xinS (q := (yX9_isChain, 11)) (List.mem_of_getElem? (i := 59) (by decide +kernel))
theorem ws_60 : Cond.selects RX9 yX9_isClosed yX9_isClosed ∈ xAllW := xinS (q := (yX9_isClosed, 11)) (List.mem_of_getElem? (i := 60) (by decide +kernel))
theorem ws_61 : Cond.selects RX9 yX9_canLay yX9_canLay ∈ xAllW := xinS (q := (yX9_canLay, 11)) (List.mem_of_getElem? (i := 61) (by decide +kernel))
theorem ws_62 : Cond.selects RX9 yX9_thickness yX9_thickness ∈ xAllW := xinS (q := (yX9_thickness, 11)) (List.mem_of_getElem? (i := 62) (by decide +kernel))
theorem ws_63 : Cond.selects RX9 yX9_kindOf yX9_kindOf ∈ xAllW := xinS (q := (yX9_kindOf, 11)) (List.mem_of_getElem? (i := 63) (by decide +kernel))
theorem ws_64 : Cond.selects RX9 yX9_keeps yX9_keeps ∈ xAllW := xinS (q := (yX9_keeps, 11)) (List.mem_of_getElem? (i := 64) (by decide +kernel))
theorem ws_65 : Cond.selects RX9 yX9_con yX9_con ∈ xAllW := xinS (q := (yX9_con, 11)) (List.mem_of_getElem? (i := 65) (by decide +kernel))
theorem ws_66 : Cond.selects RX9 yX9_ends yX9_ends ∈ xAllW := xinS (q := (yX9_ends, 11)) (List.mem_of_getElem? (i := 66) (by decide +kernel))
theorem ws_67 : Cond.selects RX9 yX9_ofKind yX9_ofKind ∈ xAllW := xinS (q := (yX9_ofKind, 11)) (List.mem_of_getElem? (i := 67) (by decide +kernel))
theorem ws_68 : Cond.selects RX9 yX9_acted yX9_acted ∈ xAllW := xinS (q := (yX9_acted, 11)) (List.mem_of_getElem? (i := 68) (by decide +kernel))
theorem ws_69 : Cond.selects RX9 yX9_passesOne yX9_passesOne ∈ xAllW := xinS (q := (yX9_passesOne, 11)) (List.mem_of_getElem? (i := 69) (by decide +kernel))
theorem ws_70 : Cond.selects RX9 yX9_grows yX9_grows ∈ xAllW := xinS (q := (yX9_grows, 11)) (List.mem_of_getElem? (i := 70) (by decide +kernel))
theorem ws_71 : Cond.selects RX9 yX9_age yX9_age ∈ xAllW := xinS (q := (yX9_age, 11)) (List.mem_of_getElem? (i := 71) (by decide +kernel))
theorem ws_72 : Cond.selects RX9 yX9_pays yX9_pays ∈ xAllW := xinS (q := (yX9_pays, 11)) (List.mem_of_getElem? (i := 72) (by decide +kernel))
theorem ws_73 : Cond.selects RX9 yX9_chains yX9_chains ∈ xAllW := xinS (q := (yX9_chains, 11)) (List.mem_of_getElem? (i := 73) (by decide +kernel))
theorem ws_74 : Cond.selects RX9 yX9_readsPart yX9_readsPart ∈ xAllW := xinS (q := (yX9_readsPart, 11)) (List.mem_of_getElem? (i := 74) (by decide +kernel))
theorem ws_75 : Cond.selects RX9 yX9_sign yX9_sign ∈ xAllW := xinS (q := (yX9_sign, 11)) (List.mem_of_getElem? (i := 75) (by decide +kernel))
theorem ws_76 : Cond.selects RX9 yX9_contracts yX9_contracts ∈ xAllW := xinS (q := (yX9_contracts, 11)) (List.mem_of_getElem? (i := 76) (by decide +kernel))
theorem ws_77 : Cond.selects RX9 yX9_longest yX9_longest ∈ xAllW := xinS (q := (yX9_longest, 11)) (List.mem_of_getElem? (i := 77) (by decide +kernel))
theorem ws_78 : Cond.selects RX9 yX9_takes yX9_takes ∈ xAllW := xinS (q := (yX9_takes, 11)) (List.mem_of_getElem? (i := 78) (by decide +kernel))
theorem ws_79 : Cond.selects RX9 yX9_workOf yX9_workOf ∈ xAllW := xinS (q := (yX9_workOf, 11)) (List.mem_of_getElem? (i := 79) (by decide +kernel))
theorem ws_80 : Cond.selects RX9 yX9_costs yX9_costs ∈ xAllW := xinS (q := (yX9_costs, 11)) (List.mem_of_getElem? (i := 80) (by decide +kernel))
theorem ws_81 : Cond.selects RX9 yX9_weeksOf yX9_weeksOf ∈ xAllW := xinS (q := (yX9_weeksOf, 11)) (List.mem_of_getElem? (i := 81) (by decide +kernel))
theorem inlX0 : ∀ w ∈ u_ws RX0 TX0 4, w ∈ xAllW := List.forall_mem_cons.mpr ⟨w_90, List.forall_mem_cons.mpr ⟨w_92, List.forall_mem_cons.mpr ⟨w_94, List.forall_mem_cons.mpr ⟨w_96, fun _ h => absurd h List.not_mem_nil⟩⟩⟩⟩
theorem inlX1 : ∀ w ∈ u_ws RX1 TX1 4, w ∈ xAllW := List.forall_mem_cons.mpr ⟨w_49, List.forall_mem_cons.mpr ⟨w_51, List.forall_mem_cons.mpr ⟨w_53, List.forall_mem_cons.mpr ⟨w_55, fun _ h => absurd h List.not_mem_nil⟩⟩⟩⟩
theorem inlX2 : ∀ w ∈ u_ws RX2 TX2 3, w ∈ xAllW := List.forall_mem_cons.mpr ⟨w_219, List.forall_mem_cons.mpr ⟨w_221, List.forall_mem_cons.mpr ⟨w_223, fun _ h => absurd h List.not_mem_nil⟩⟩⟩
theorem inlX3 : ∀ w ∈ u_ws RX3 TX3 3, w ∈ xAllW := List.forall_mem_cons.mpr ⟨w_183, List.forall_mem_cons.mpr ⟨w_185, List.forall_mem_cons.mpr ⟨w_187, fun _ h => absurd h List.not_mem_nil⟩⟩⟩
theorem inlX4 : ∀ w ∈ u_ws RX4 TX4 14, w ∈ xAllW := List.forall_mem_cons.mpr ⟨w_126, List.forall_mem_cons.mpr ⟨w_128, List.forall_mem_cons.mpr ⟨w_130, List.forall_mem_cons.mpr ⟨w_132, List.forall_mem_cons.mpr ⟨w_134, List.forall_mem_cons.mpr ⟨w_136, List.forall_mem_cons.mpr ⟨w_138, List.forall_mem_cons.mpr ⟨w_140, List.forall_mem_cons.mpr ⟨w_142, List.forall_mem_cons.mpr ⟨w_144, List.forall_mem_cons.mpr ⟨w_146, List.forall_mem_cons.mpr ⟨w_148, List.forall_mem_cons.mpr ⟨w_150, List.forall_mem_cons.mpr ⟨w_152, fun _ h => absurd h List.not_mem_nil⟩⟩⟩⟩⟩⟩⟩⟩⟩⟩⟩⟩⟩⟩
theorem inlX5 : ∀ w ∈ u_ws RX5 TX5 6, w ∈ xAllW := List.forall_mem_cons.mpr ⟨w_238, List.forall_mem_cons.mpr ⟨w_240, List.forall_mem_cons.mpr ⟨w_242, List.forall_mem_cons.mpr ⟨w_244, List.forall_mem_cons.mpr ⟨w_246, List.forall_mem_cons.mpr ⟨w_248, fun _ h => absurd h List.not_mem_nil⟩⟩⟩⟩⟩⟩
theorem inlX6 : ∀ w ∈ u_ws RX6 TX6 3, w ∈ xAllW := List.forall_mem_cons.mpr ⟨w_162, List.forall_mem_cons.mpr ⟨w_164, List.forall_mem_cons.mpr ⟨w_166, fun _ h => absurd h List.not_mem_nil⟩⟩⟩
theorem inlX7 : ∀ w ∈ u_ws RX7 TX7 2, w ∈ xAllW := List.forall_mem_cons.mpr ⟨w_200, List.forall_mem_cons.mpr ⟨w_202, fun _ h => absurd h List.not_mem_nil⟩⟩
theorem inlX8 : ∀ w ∈ u_ws RX8 TX8 6, w ∈ xAllW := List.forall_mem_cons.mpr ⟨w_257, List.forall_mem_cons.mpr ⟨w_259, List.forall_mem_cons.mpr ⟨w_261, List.forall_mem_cons.mpr ⟨w_263, List.forall_mem_cons.mpr ⟨w_265, List.forall_mem_cons.mpr ⟨w_267, fun _ h => absurd h List.not_mem_nil⟩⟩⟩⟩⟩⟩
theorem inlX9 : ∀ w ∈ u_ws RX9 TX9 11, w ∈ xAllW := List.forall_mem_cons.mpr ⟨w_654, List.forall_mem_cons.mpr ⟨w_656, List.forall_mem_cons.mpr ⟨w_658, List.forall_mem_cons.mpr ⟨w_660, List.forall_mem_cons.mpr ⟨w_662, List.forall_mem_cons.mpr ⟨w_664, List.forall_mem_cons.mpr ⟨w_666, List.forall_mem_cons.mpr ⟨w_668, List.forall_mem_cons.mpr ⟨w_670, List.forall_mem_cons.mpr ⟨w_672, List.forall_mem_cons.mpr ⟨w_674, fun _ h => absurd h List.not_mem_nil⟩⟩⟩⟩⟩⟩⟩⟩⟩⟩⟩
end
section
theorem dX0_init_0 : decode cX0_init 0 = .ok (.aload_n 0, 1) := by decide +kernel
theorem dX0_init_1 : decode cX0_init 1 = .ok (.invokespecial 1, 3) := by decide +kernel
theorem dX0_init_4 : decode cX0_init 4 = .ok (.aload_n 0, 1) := by decide +kernel
theorem dX0_init_5 : decode cX0_init 5 = .ok (.iconst 0, 1) := by decide +kernel
theorem dX0_init_6 : decode cX0_init 6 = .ok (.putfield 7, 3) := by decide +kernel
theorem dX0_init_9 : decode cX0_init 9 = .ok (.return_, 1) := by decide +kernel
theorem dX0_copyFrom_0 : decode cX0_copyFrom 0 = .ok (.aload_n 0, 1) := by decide +kernel
theorem dX0_copyFrom_1 : decode cX0_copyFrom 1 = .ok (.aload_n 1, 1) := by decide +kernel
theorem dX0_copyFrom_2 : decode cX0_copyFrom 2 = .ok (.getfield 7, 3) := by decide +kernel
theorem dX0_copyFrom_5 : decode cX0_copyFrom 5 = .ok (.putfield 7, 3) := by decide +kernel
theorem dX0_copyFrom_8 : decode cX0_copyFrom 8 = .ok (.aload_n 0, 1) := by decide +kernel
theorem dX0_copyFrom_9 : decode cX0_copyFrom 9 = .ok (.aload_n 1, 1) := by decide +kernel
theorem dX0_copyFrom_10 : decode cX0_copyFrom 10 = .ok (.getfield 13, 3) := by decide +kernel
theorem dX0_copyFrom_13 : decode cX0_copyFrom 13 = .ok (.putfield 13, 3) := by decide +kernel
theorem dX0_copyFrom_16 : decode cX0_copyFrom 16 = .ok (.aload_n 0, 1) := by decide +kernel
theorem dX0_copyFrom_17 : decode cX0_copyFrom 17 = .ok (.aload_n 1, 1) := by decide +kernel
theorem dX0_copyFrom_18 : decode cX0_copyFrom 18 = .ok (.getfield 17, 3) := by decide +kernel
theorem dX0_copyFrom_21 : decode cX0_copyFrom 21 = .ok (.putfield 17, 3) := by decide +kernel
theorem dX0_copyFrom_24 : decode cX0_copyFrom 24 = .ok (.aload_n 0, 1) := by decide +kernel
theorem dX0_copyFrom_25 : decode cX0_copyFrom 25 = .ok (.aload_n 1, 1) := by decide +kernel
theorem dX0_copyFrom_26 : decode cX0_copyFrom 26 = .ok (.getfield 20, 3) := by decide +kernel
theorem dX0_copyFrom_29 : decode cX0_copyFrom 29 = .ok (.putfield 20, 3) := by decide +kernel
theorem dX0_copyFrom_32 : decode cX0_copyFrom 32 = .ok (.return_, 1) := by decide +kernel
theorem dX0_make_0 : decode cX0_make 0 = .ok (.aload_n 0, 1) := by decide +kernel
theorem dX0_make_1 : decode cX0_make 1 = .ok (.iconst 1, 1) := by decide +kernel
theorem dX0_make_2 : decode cX0_make 2 = .ok (.putfield 7, 3) := by decide +kernel
theorem dX0_make_5 : decode cX0_make 5 = .ok (.aload_n 0, 1) := by decide +kernel
theorem dX0_make_6 : decode cX0_make 6 = .ok (.iload_n 1, 1) := by decide +kernel
theorem dX0_make_7 : decode cX0_make 7 = .ok (.putfield 13, 3) := by decide +kernel
theorem dX0_make_10 : decode cX0_make 10 = .ok (.aload_n 0, 1) := by decide +kernel
theorem dX0_make_11 : decode cX0_make 11 = .ok (.iload_n 2, 1) := by decide +kernel
theorem dX0_make_12 : decode cX0_make 12 = .ok (.putfield 17, 3) := by decide +kernel
theorem dX0_make_15 : decode cX0_make 15 = .ok (.aload_n 0, 1) := by decide +kernel
theorem dX0_make_16 : decode cX0_make 16 = .ok (.iload_n 3, 1) := by decide +kernel
theorem dX0_make_17 : decode cX0_make 17 = .ok (.putfield 20, 3) := by decide +kernel
theorem dX0_make_20 : decode cX0_make 20 = .ok (.return_, 1) := by decide +kernel
theorem dX1_init_0 : decode cX1_init 0 = .ok (.aload_n 0, 1) := by decide +kernel
theorem dX1_init_1 : decode cX1_init 1 = .ok (.invokespecial 3, 3) := by decide +kernel
theorem dX1_init_4 : decode cX1_init 4 = .ok (.aload_n 0, 1) := by decide +kernel
theorem dX1_init_5 : decode cX1_init 5 = .ok (.bipush 30, 2) := by decide +kernel
theorem dX1_init_7 : decode cX1_init 7 = .ok (.newarray .int, 2) := by decide +kernel
theorem dX1_init_9 : decode cX1_init 9 = .ok (.putfield 9, 3) := by decide +kernel
theorem dX1_init_12 : decode cX1_init 12 = .ok (.aload_n 0, 1) := by decide +kernel
theorem dX1_init_13 : decode cX1_init 13 = .ok (.bipush 30, 2) := by decide +kernel
theorem dX1_init_15 : decode cX1_init 15 = .ok (.newarray .int, 2) := by decide +kernel
theorem dX1_init_17 : decode cX1_init 17 = .ok (.putfield 15, 3) := by decide +kernel
theorem dX1_init_20 : decode cX1_init 20 = .ok (.aload_n 0, 1) := by decide +kernel
theorem dX1_init_21 : decode cX1_init 21 = .ok (.bipush 30, 2) := by decide +kernel
theorem dX1_init_23 : decode cX1_init 23 = .ok (.newarray .int, 2) := by decide +kernel
theorem dX1_init_25 : decode cX1_init 25 = .ok (.putfield 18, 3) := by decide +kernel
theorem dX1_init_28 : decode cX1_init 28 = .ok (.aload_n 0, 1) := by decide +kernel
theorem dX1_init_29 : decode cX1_init 29 = .ok (.iconst 0, 1) := by decide +kernel
theorem dX1_init_30 : decode cX1_init 30 = .ok (.putfield 21, 3) := by decide +kernel
theorem dX1_init_33 : decode cX1_init 33 = .ok (.return_, 1) := by decide +kernel
theorem dX1_copyFrom_0 : decode cX1_copyFrom 0 = .ok (.aload_n 1, 1) := by decide +kernel
theorem dX1_copyFrom_1 : decode cX1_copyFrom 1 = .ok (.getfield 9, 3) := by decide +kernel
theorem dX1_copyFrom_4 : decode cX1_copyFrom 4 = .ok (.iconst 0, 1) := by decide +kernel
theorem dX1_copyFrom_5 : decode cX1_copyFrom 5 = .ok (.aload_n 0, 1) := by decide +kernel
theorem dX1_copyFrom_6 : decode cX1_copyFrom 6 = .ok (.getfield 9, 3) := by decide +kernel
theorem dX1_copyFrom_9 : decode cX1_copyFrom 9 = .ok (.iconst 0, 1) := by decide +kernel
theorem dX1_copyFrom_10 : decode cX1_copyFrom 10 = .ok (.bipush 30, 2) := by decide +kernel
theorem dX1_copyFrom_12 : decode cX1_copyFrom 12 = .ok (.invokestatic 25, 3) := by decide +kernel
theorem dX1_copyFrom_15 : decode cX1_copyFrom 15 = .ok (.aload_n 1, 1) := by decide +kernel
theorem dX1_copyFrom_16 : decode cX1_copyFrom 16 = .ok (.getfield 15, 3) := by decide +kernel
theorem dX1_copyFrom_19 : decode cX1_copyFrom 19 = .ok (.iconst 0, 1) := by decide +kernel
theorem dX1_copyFrom_20 : decode cX1_copyFrom 20 = .ok (.aload_n 0, 1) := by decide +kernel
theorem dX1_copyFrom_21 : decode cX1_copyFrom 21 = .ok (.getfield 15, 3) := by decide +kernel
theorem dX1_copyFrom_24 : decode cX1_copyFrom 24 = .ok (.iconst 0, 1) := by decide +kernel
theorem dX1_copyFrom_25 : decode cX1_copyFrom 25 = .ok (.bipush 30, 2) := by decide +kernel
theorem dX1_copyFrom_27 : decode cX1_copyFrom 27 = .ok (.invokestatic 25, 3) := by decide +kernel
theorem dX1_copyFrom_30 : decode cX1_copyFrom 30 = .ok (.aload_n 1, 1) := by decide +kernel
theorem dX1_copyFrom_31 : decode cX1_copyFrom 31 = .ok (.getfield 18, 3) := by decide +kernel
theorem dX1_copyFrom_34 : decode cX1_copyFrom 34 = .ok (.iconst 0, 1) := by decide +kernel
theorem dX1_copyFrom_35 : decode cX1_copyFrom 35 = .ok (.aload_n 0, 1) := by decide +kernel
theorem dX1_copyFrom_36 : decode cX1_copyFrom 36 = .ok (.getfield 18, 3) := by decide +kernel
theorem dX1_copyFrom_39 : decode cX1_copyFrom 39 = .ok (.iconst 0, 1) := by decide +kernel
theorem dX1_copyFrom_40 : decode cX1_copyFrom 40 = .ok (.bipush 30, 2) := by decide +kernel
theorem dX1_copyFrom_42 : decode cX1_copyFrom 42 = .ok (.invokestatic 25, 3) := by decide +kernel
theorem dX1_copyFrom_45 : decode cX1_copyFrom 45 = .ok (.aload_n 0, 1) := by decide +kernel
theorem dX1_copyFrom_46 : decode cX1_copyFrom 46 = .ok (.aload_n 1, 1) := by decide +kernel
theorem dX1_copyFrom_47 : decode cX1_copyFrom 47 = .ok (.getfield 21, 3) := by decide +kernel
theorem dX1_copyFrom_50 : decode cX1_copyFrom 50 = .ok (.putfield 21, 3) := by decide +kernel
theorem dX1_copyFrom_53 : decode cX1_copyFrom 53 = .ok (.return_, 1) := by decide +kernel
theorem dX1_addChains_0 : decode cX1_addChains 0 = .ok (.iconst 0, 1) := by decide +kernel
theorem dX1_addChains_1 : decode cX1_addChains 1 = .ok (.istore 4, 2) := by decide +kernel
theorem dX1_addChains_3 : decode cX1_addChains 3 = .ok (.iload 4, 2) := by decide +kernel
theorem dX1_addChains_5 : decode cX1_addChains 5 = .ok (.iload_n 3, 1) := by decide +kernel
theorem dX1_addChains_6 : decode cX1_addChains 6 = .ok (.if_icmp .ge 40, 3) := by decide +kernel
theorem dX1_addChains_9 : decode cX1_addChains 9 = .ok (.aload_n 0, 1) := by decide +kernel
theorem dX1_addChains_10 : decode cX1_addChains 10 = .ok (.getfield 21, 3) := by decide +kernel
theorem dX1_addChains_13 : decode cX1_addChains 13 = .ok (.bipush 30, 2) := by decide +kernel
theorem dX1_addChains_15 : decode cX1_addChains 15 = .ok (.if_icmp .ge 31, 3) := by decide +kernel
theorem dX1_addChains_18 : decode cX1_addChains 18 = .ok (.aload_n 0, 1) := by decide +kernel
theorem dX1_addChains_19 : decode cX1_addChains 19 = .ok (.dup, 1) := by decide +kernel
theorem dX1_addChains_20 : decode cX1_addChains 20 = .ok (.getfield 21, 3) := by decide +kernel
theorem dX1_addChains_23 : decode cX1_addChains 23 = .ok (.iconst 1, 1) := by decide +kernel
theorem dX1_addChains_24 : decode cX1_addChains 24 = .ok (.iadd, 1) := by decide +kernel
theorem dX1_addChains_25 : decode cX1_addChains 25 = .ok (.putfield 21, 3) := by decide +kernel
theorem dX1_addChains_28 : decode cX1_addChains 28 = .ok (.aload_n 0, 1) := by decide +kernel
theorem dX1_addChains_29 : decode cX1_addChains 29 = .ok (.aload_n 0, 1) := by decide +kernel
theorem dX1_addChains_30 : decode cX1_addChains 30 = .ok (.getfield 21, 3) := by decide +kernel
theorem dX1_addChains_33 : decode cX1_addChains 33 = .ok (.iconst 1, 1) := by decide +kernel
theorem dX1_addChains_34 : decode cX1_addChains 34 = .ok (.isub, 1) := by decide +kernel
theorem dX1_addChains_35 : decode cX1_addChains 35 = .ok (.iload_n 1, 1) := by decide +kernel
theorem dX1_addChains_36 : decode cX1_addChains 36 = .ok (.iload_n 2, 1) := by decide +kernel
theorem dX1_addChains_37 : decode cX1_addChains 37 = .ok (.invokevirtual 31, 3) := by decide +kernel
theorem dX1_addChains_40 : decode cX1_addChains 40 = .ok (.iinc 4 1, 3) := by decide +kernel
theorem dX1_addChains_43 : decode cX1_addChains 43 = .ok (.goto (-40), 3) := by decide +kernel
theorem dX1_addChains_46 : decode cX1_addChains 46 = .ok (.return_, 1) := by decide +kernel
theorem dX1_changeChain_0 : decode cX1_changeChain 0 = .ok (.aload_n 0, 1) := by decide +kernel
theorem dX1_changeChain_1 : decode cX1_changeChain 1 = .ok (.iload_n 1, 1) := by decide +kernel
theorem dX1_changeChain_2 : decode cX1_changeChain 2 = .ok (.invokevirtual 35, 3) := by decide +kernel
theorem dX1_changeChain_5 : decode cX1_changeChain 5 = .ok (.ifCond .eq 24, 3) := by decide +kernel
theorem dX1_changeChain_8 : decode cX1_changeChain 8 = .ok (.aload_n 0, 1) := by decide +kernel
theorem dX1_changeChain_9 : decode cX1_changeChain 9 = .ok (.getfield 9, 3) := by decide +kernel
theorem dX1_changeChain_12 : decode cX1_changeChain 12 = .ok (.iload_n 1, 1) := by decide +kernel
theorem dX1_changeChain_13 : decode cX1_changeChain 13 = .ok (.iload_n 2, 1) := by decide +kernel
theorem dX1_changeChain_14 : decode cX1_changeChain 14 = .ok (.iastore, 1) := by decide +kernel
theorem dX1_changeChain_15 : decode cX1_changeChain 15 = .ok (.aload_n 0, 1) := by decide +kernel
theorem dX1_changeChain_16 : decode cX1_changeChain 16 = .ok (.getfield 15, 3) := by decide +kernel
theorem dX1_changeChain_19 : decode cX1_changeChain 19 = .ok (.iload_n 1, 1) := by decide +kernel
theorem dX1_changeChain_20 : decode cX1_changeChain 20 = .ok (.iload_n 3, 1) := by decide +kernel
theorem dX1_changeChain_21 : decode cX1_changeChain 21 = .ok (.iastore, 1) := by decide +kernel
theorem dX1_changeChain_22 : decode cX1_changeChain 22 = .ok (.aload_n 0, 1) := by decide +kernel
theorem dX1_changeChain_23 : decode cX1_changeChain 23 = .ok (.getfield 18, 3) := by decide +kernel
theorem dX1_changeChain_26 : decode cX1_changeChain 26 = .ok (.iload_n 1, 1) := by decide +kernel
theorem dX1_changeChain_27 : decode cX1_changeChain 27 = .ok (.iconst 0, 1) := by decide +kernel
theorem dX1_changeChain_28 : decode cX1_changeChain 28 = .ok (.iastore, 1) := by decide +kernel
theorem dX1_changeChain_29 : decode cX1_changeChain 29 = .ok (.return_, 1) := by decide +kernel
theorem dX1_has_0 : decode cX1_has 0 = .ok (.iload_n 1, 1) := by decide +kernel
theorem dX1_has_1 : decode cX1_has 1 = .ok (.ifCond .lt 15, 3) := by decide +kernel
theorem dX1_has_4 : decode cX1_has 4 = .ok (.iload_n 1, 1) := by decide +kernel
theorem dX1_has_5 : decode cX1_has 5 = .ok (.aload_n 0, 1) := by decide +kernel
theorem dX1_has_6 : decode cX1_has 6 = .ok (.getfield 21, 3) := by decide +kernel
theorem dX1_has_9 : decode cX1_has 9 = .ok (.if_icmp .ge 7, 3) := by decide +kernel
theorem dX1_has_12 : decode cX1_has 12 = .ok (.iconst 1, 1) := by decide +kernel
theorem dX1_has_13 : decode cX1_has 13 = .ok (.goto 4, 3) := by decide +kernel
theorem dX1_has_16 : decode cX1_has 16 = .ok (.iconst 0, 1) := by decide +kernel
theorem dX1_has_17 : decode cX1_has 17 = .ok (.ireturn, 1) := by decide +kernel
theorem dX1_kindOf_0 : decode cX1_kindOf 0 = .ok (.aload_n 0, 1) := by decide +kernel
theorem dX1_kindOf_1 : decode cX1_kindOf 1 = .ok (.iload_n 1, 1) := by decide +kernel
theorem dX1_kindOf_2 : decode cX1_kindOf 2 = .ok (.invokevirtual 35, 3) := by decide +kernel
theorem dX1_kindOf_5 : decode cX1_kindOf 5 = .ok (.ifCond .eq 12, 3) := by decide +kernel
theorem dX1_kindOf_8 : decode cX1_kindOf 8 = .ok (.aload_n 0, 1) := by decide +kernel
theorem dX1_kindOf_9 : decode cX1_kindOf 9 = .ok (.getfield 9, 3) := by decide +kernel
theorem dX1_kindOf_12 : decode cX1_kindOf 12 = .ok (.iload_n 1, 1) := by decide +kernel
theorem dX1_kindOf_13 : decode cX1_kindOf 13 = .ok (.iaload, 1) := by decide +kernel
theorem dX1_kindOf_14 : decode cX1_kindOf 14 = .ok (.goto 4, 3) := by decide +kernel
theorem dX1_kindOf_17 : decode cX1_kindOf 17 = .ok (.iconst (-1), 1) := by decide +kernel
theorem dX1_kindOf_18 : decode cX1_kindOf 18 = .ok (.ireturn, 1) := by decide +kernel
theorem dX1_thicknessOf_0 : decode cX1_thicknessOf 0 = .ok (.aload_n 0, 1) := by decide +kernel
theorem dX1_thicknessOf_1 : decode cX1_thicknessOf 1 = .ok (.iload_n 1, 1) := by decide +kernel
theorem dX1_thicknessOf_2 : decode cX1_thicknessOf 2 = .ok (.invokevirtual 35, 3) := by decide +kernel
theorem dX1_thicknessOf_5 : decode cX1_thicknessOf 5 = .ok (.ifCond .eq 12, 3) := by decide +kernel
theorem dX1_thicknessOf_8 : decode cX1_thicknessOf 8 = .ok (.aload_n 0, 1) := by decide +kernel
theorem dX1_thicknessOf_9 : decode cX1_thicknessOf 9 = .ok (.getfield 15, 3) := by decide +kernel
theorem dX1_thicknessOf_12 : decode cX1_thicknessOf 12 = .ok (.iload_n 1, 1) := by decide +kernel
theorem dX1_thicknessOf_13 : decode cX1_thicknessOf 13 = .ok (.iaload, 1) := by decide +kernel
theorem dX1_thicknessOf_14 : decode cX1_thicknessOf 14 = .ok (.goto 4, 3) := by decide +kernel
theorem dX1_thicknessOf_17 : decode cX1_thicknessOf 17 = .ok (.iconst 0, 1) := by decide +kernel
theorem dX1_thicknessOf_18 : decode cX1_thicknessOf 18 = .ok (.ireturn, 1) := by decide +kernel
theorem dX1_ageOf_0 : decode cX1_ageOf 0 = .ok (.aload_n 0, 1) := by decide +kernel
theorem dX1_ageOf_1 : decode cX1_ageOf 1 = .ok (.iload_n 1, 1) := by decide +kernel
theorem dX1_ageOf_2 : decode cX1_ageOf 2 = .ok (.invokevirtual 35, 3) := by decide +kernel
theorem dX1_ageOf_5 : decode cX1_ageOf 5 = .ok (.ifCond .eq 12, 3) := by decide +kernel
theorem dX1_ageOf_8 : decode cX1_ageOf 8 = .ok (.aload_n 0, 1) := by decide +kernel
theorem dX1_ageOf_9 : decode cX1_ageOf 9 = .ok (.getfield 18, 3) := by decide +kernel
theorem dX1_ageOf_12 : decode cX1_ageOf 12 = .ok (.iload_n 1, 1) := by decide +kernel
theorem dX1_ageOf_13 : decode cX1_ageOf 13 = .ok (.iaload, 1) := by decide +kernel
theorem dX1_ageOf_14 : decode cX1_ageOf 14 = .ok (.goto 4, 3) := by decide +kernel
theorem dX1_ageOf_17 : decode cX1_ageOf 17 = .ok (.iconst 0, 1) := by decide +kernel
theorem dX1_ageOf_18 : decode cX1_ageOf 18 = .ok (.ireturn, 1) := by decide +kernel
theorem dX1_isToLay_0 : decode cX1_isToLay 0 = .ok (.aload_n 0, 1) := by decide +kernel
theorem dX1_isToLay_1 : decode cX1_isToLay 1 = .ok (.iload_n 1, 1) := by decide +kernel
theorem dX1_isToLay_2 : decode cX1_isToLay 2 = .ok (.invokevirtual 35, 3) := by decide +kernel
theorem dX1_isToLay_5 : decode cX1_isToLay 5 = .ok (.ifCond .eq 26, 3) := by decide +kernel
theorem dX1_isToLay_8 : decode cX1_isToLay 8 = .ok (.aload_n 0, 1) := by decide +kernel
theorem dX1_isToLay_9 : decode cX1_isToLay 9 = .ok (.getfield 9, 3) := by decide +kernel
theorem dX1_isToLay_12 : decode cX1_isToLay 12 = .ok (.iload_n 1, 1) := by decide +kernel
theorem dX1_isToLay_13 : decode cX1_isToLay 13 = .ok (.iaload, 1) := by decide +kernel
theorem dX1_isToLay_14 : decode cX1_isToLay 14 = .ok (.ifCond .ne 17, 3) := by decide +kernel
theorem dX1_isToLay_17 : decode cX1_isToLay 17 = .ok (.aload_n 0, 1) := by decide +kernel
theorem dX1_isToLay_18 : decode cX1_isToLay 18 = .ok (.getfield 15, 3) := by decide +kernel
theorem dX1_isToLay_21 : decode cX1_isToLay 21 = .ok (.iload_n 1, 1) := by decide +kernel
theorem dX1_isToLay_22 : decode cX1_isToLay 22 = .ok (.iaload, 1) := by decide +kernel
theorem dX1_isToLay_23 : decode cX1_isToLay 23 = .ok (.iconst 2, 1) := by decide +kernel
theorem dX1_isToLay_24 : decode cX1_isToLay 24 = .ok (.if_icmp .lt 7, 3) := by decide +kernel
theorem dX1_isToLay_27 : decode cX1_isToLay 27 = .ok (.iconst 1, 1) := by decide +kernel
theorem dX1_isToLay_28 : decode cX1_isToLay 28 = .ok (.goto 4, 3) := by decide +kernel
theorem dX1_isToLay_31 : decode cX1_isToLay 31 = .ok (.iconst 0, 1) := by decide +kernel
theorem dX1_isToLay_32 : decode cX1_isToLay 32 = .ok (.ireturn, 1) := by decide +kernel
theorem dX1_isToCut_0 : decode cX1_isToCut 0 = .ok (.aload_n 0, 1) := by decide +kernel
theorem dX1_isToCut_1 : decode cX1_isToCut 1 = .ok (.iload_n 1, 1) := by decide +kernel
theorem dX1_isToCut_2 : decode cX1_isToCut 2 = .ok (.invokevirtual 35, 3) := by decide +kernel
theorem dX1_isToCut_5 : decode cX1_isToCut 5 = .ok (.ifCond .eq 26, 3) := by decide +kernel
theorem dX1_isToCut_8 : decode cX1_isToCut 8 = .ok (.aload_n 0, 1) := by decide +kernel
theorem dX1_isToCut_9 : decode cX1_isToCut 9 = .ok (.getfield 9, 3) := by decide +kernel
theorem dX1_isToCut_12 : decode cX1_isToCut 12 = .ok (.iload_n 1, 1) := by decide +kernel
theorem dX1_isToCut_13 : decode cX1_isToCut 13 = .ok (.iaload, 1) := by decide +kernel
theorem dX1_isToCut_14 : decode cX1_isToCut 14 = .ok (.ifCond .ne 17, 3) := by decide +kernel
theorem dX1_isToCut_17 : decode cX1_isToCut 17 = .ok (.aload_n 0, 1) := by decide +kernel
theorem dX1_isToCut_18 : decode cX1_isToCut 18 = .ok (.getfield 15, 3) := by decide +kernel
theorem dX1_isToCut_21 : decode cX1_isToCut 21 = .ok (.iload_n 1, 1) := by decide +kernel
theorem dX1_isToCut_22 : decode cX1_isToCut 22 = .ok (.iaload, 1) := by decide +kernel
theorem dX1_isToCut_23 : decode cX1_isToCut 23 = .ok (.iconst 3, 1) := by decide +kernel
theorem dX1_isToCut_24 : decode cX1_isToCut 24 = .ok (.if_icmp .lt 7, 3) := by decide +kernel
theorem dX1_isToCut_27 : decode cX1_isToCut 27 = .ok (.iconst 1, 1) := by decide +kernel
theorem dX1_isToCut_28 : decode cX1_isToCut 28 = .ok (.goto 4, 3) := by decide +kernel
theorem dX1_isToCut_31 : decode cX1_isToCut 31 = .ok (.iconst 0, 1) := by decide +kernel
theorem dX1_isToCut_32 : decode cX1_isToCut 32 = .ok (.ireturn, 1) := by decide +kernel
theorem dX1_numberOf_0 : decode cX1_numberOf 0 = .ok (.iconst 0, 1) := by decide +kernel
theorem dX1_numberOf_1 : decode cX1_numberOf 1 = .ok (.istore_n 2, 1) := by decide +kernel
theorem dX1_numberOf_2 : decode cX1_numberOf 2 = .ok (.iconst 0, 1) := by decide +kernel
theorem dX1_numberOf_3 : decode cX1_numberOf 3 = .ok (.istore_n 3, 1) := by decide +kernel
theorem dX1_numberOf_4 : decode cX1_numberOf 4 = .ok (.iload_n 3, 1) := by decide +kernel
theorem dX1_numberOf_5 : decode cX1_numberOf 5 = .ok (.aload_n 0, 1) := by decide +kernel
theorem dX1_numberOf_6 : decode cX1_numberOf 6 = .ok (.getfield 21, 3) := by decide +kernel
theorem dX1_numberOf_9 : decode cX1_numberOf 9 = .ok (.if_icmp .ge 21, 3) := by decide +kernel
theorem dX1_numberOf_12 : decode cX1_numberOf 12 = .ok (.aload_n 0, 1) := by decide +kernel
theorem dX1_numberOf_13 : decode cX1_numberOf 13 = .ok (.iload_n 3, 1) := by decide +kernel
theorem dX1_numberOf_14 : decode cX1_numberOf 14 = .ok (.invokevirtual 39, 3) := by decide +kernel
theorem dX1_numberOf_17 : decode cX1_numberOf 17 = .ok (.iload_n 1, 1) := by decide +kernel
theorem dX1_numberOf_18 : decode cX1_numberOf 18 = .ok (.if_icmp .ne 6, 3) := by decide +kernel
theorem dX1_numberOf_21 : decode cX1_numberOf 21 = .ok (.iinc 2 1, 3) := by decide +kernel
theorem dX1_numberOf_24 : decode cX1_numberOf 24 = .ok (.iinc 3 1, 3) := by decide +kernel
theorem dX1_numberOf_27 : decode cX1_numberOf 27 = .ok (.goto (-23), 3) := by decide +kernel
theorem dX1_numberOf_30 : decode cX1_numberOf 30 = .ok (.iload_n 2, 1) := by decide +kernel
theorem dX1_numberOf_31 : decode cX1_numberOf 31 = .ok (.ireturn, 1) := by decide +kernel
theorem dX1_longestRunBegin_0 : decode cX1_longestRunBegin 0 = .ok (.bipush (-9), 2) := by decide +kernel
theorem dX1_longestRunBegin_2 : decode cX1_longestRunBegin 2 = .ok (.istore_n 1, 1) := by decide +kernel
theorem dX1_longestRunBegin_3 : decode cX1_longestRunBegin 3 = .ok (.iconst 0, 1) := by decide +kernel
theorem dX1_longestRunBegin_4 : decode cX1_longestRunBegin 4 = .ok (.istore_n 2, 1) := by decide +kernel
theorem dX1_longestRunBegin_5 : decode cX1_longestRunBegin 5 = .ok (.iconst 0, 1) := by decide +kernel
theorem dX1_longestRunBegin_6 : decode cX1_longestRunBegin 6 = .ok (.istore_n 3, 1) := by decide +kernel
theorem dX1_longestRunBegin_7 : decode cX1_longestRunBegin 7 = .ok (.iload_n 3, 1) := by decide +kernel
theorem dX1_longestRunBegin_8 : decode cX1_longestRunBegin 8 = .ok (.aload_n 0, 1) := by decide +kernel
theorem dX1_longestRunBegin_9 : decode cX1_longestRunBegin 9 = .ok (.getfield 21, 3) := by decide +kernel
theorem dX1_longestRunBegin_12 : decode cX1_longestRunBegin 12 = .ok (.if_icmp .ge 27, 3) := by decide +kernel
theorem dX1_longestRunBegin_15 : decode cX1_longestRunBegin 15 = .ok (.aload_n 0, 1) := by decide +kernel
theorem dX1_longestRunBegin_16 : decode cX1_longestRunBegin 16 = .ok (.iload_n 3, 1) := by decide +kernel
theorem dX1_longestRunBegin_17 : decode cX1_longestRunBegin 17 = .ok (.invokevirtual 43, 3) := by decide +kernel
theorem dX1_longestRunBegin_20 : decode cX1_longestRunBegin 20 = .ok (.istore 4, 2) := by decide +kernel
theorem dX1_longestRunBegin_22 : decode cX1_longestRunBegin 22 = .ok (.iload 4, 2) := by decide +kernel
theorem dX1_longestRunBegin_24 : decode cX1_longestRunBegin 24 = .ok (.iload_n 2, 1) := by decide +kernel
theorem dX1_longestRunBegin_25 : decode cX1_longestRunBegin 25 = .ok (.if_icmp .le 8, 3) := by decide +kernel
theorem dX1_longestRunBegin_28 : decode cX1_longestRunBegin 28 = .ok (.iload 4, 2) := by decide +kernel
theorem dX1_longestRunBegin_30 : decode cX1_longestRunBegin 30 = .ok (.istore_n 2, 1) := by decide +kernel
theorem dX1_longestRunBegin_31 : decode cX1_longestRunBegin 31 = .ok (.iload_n 3, 1) := by decide +kernel
theorem dX1_longestRunBegin_32 : decode cX1_longestRunBegin 32 = .ok (.istore_n 1, 1) := by decide +kernel
theorem dX1_longestRunBegin_33 : decode cX1_longestRunBegin 33 = .ok (.iinc 3 1, 3) := by decide +kernel
theorem dX1_longestRunBegin_36 : decode cX1_longestRunBegin 36 = .ok (.goto (-29), 3) := by decide +kernel
theorem dX1_longestRunBegin_39 : decode cX1_longestRunBegin 39 = .ok (.iload_n 1, 1) := by decide +kernel
theorem dX1_longestRunBegin_40 : decode cX1_longestRunBegin 40 = .ok (.ireturn, 1) := by decide +kernel
theorem dX1_runFrom_0 : decode cX1_runFrom 0 = .ok (.iconst 0, 1) := by decide +kernel
theorem dX1_runFrom_1 : decode cX1_runFrom 1 = .ok (.istore_n 2, 1) := by decide +kernel
theorem dX1_runFrom_2 : decode cX1_runFrom 2 = .ok (.iload_n 2, 1) := by decide +kernel
theorem dX1_runFrom_3 : decode cX1_runFrom 3 = .ok (.aload_n 0, 1) := by decide +kernel
theorem dX1_runFrom_4 : decode cX1_runFrom 4 = .ok (.getfield 21, 3) := by decide +kernel
theorem dX1_runFrom_7 : decode cX1_runFrom 7 = .ok (.if_icmp .ge 20, 3) := by decide +kernel
theorem dX1_runFrom_10 : decode cX1_runFrom 10 = .ok (.aload_n 0, 1) := by decide +kernel
theorem dX1_runFrom_11 : decode cX1_runFrom 11 = .ok (.iload_n 1, 1) := by decide +kernel
theorem dX1_runFrom_12 : decode cX1_runFrom 12 = .ok (.iload_n 2, 1) := by decide +kernel
theorem dX1_runFrom_13 : decode cX1_runFrom 13 = .ok (.iadd, 1) := by decide +kernel
theorem dX1_runFrom_14 : decode cX1_runFrom 14 = .ok (.invokevirtual 39, 3) := by decide +kernel
theorem dX1_runFrom_17 : decode cX1_runFrom 17 = .ok (.iconst 1, 1) := by decide +kernel
theorem dX1_runFrom_18 : decode cX1_runFrom 18 = .ok (.if_icmp .ne 9, 3) := by decide +kernel
theorem dX1_runFrom_21 : decode cX1_runFrom 21 = .ok (.iinc 2 1, 3) := by decide +kernel
theorem dX1_runFrom_24 : decode cX1_runFrom 24 = .ok (.goto (-22), 3) := by decide +kernel
theorem dX1_runFrom_27 : decode cX1_runFrom 27 = .ok (.iload_n 2, 1) := by decide +kernel
theorem dX1_runFrom_28 : decode cX1_runFrom 28 = .ok (.ireturn, 1) := by decide +kernel
theorem dX1_grow_0 : decode cX1_grow 0 = .ok (.iconst 0, 1) := by decide +kernel
theorem dX1_grow_1 : decode cX1_grow 1 = .ok (.istore_n 2, 1) := by decide +kernel
theorem dX1_grow_2 : decode cX1_grow 2 = .ok (.iload_n 2, 1) := by decide +kernel
theorem dX1_grow_3 : decode cX1_grow 3 = .ok (.aload_n 0, 1) := by decide +kernel
theorem dX1_grow_4 : decode cX1_grow 4 = .ok (.getfield 21, 3) := by decide +kernel
theorem dX1_grow_7 : decode cX1_grow 7 = .ok (.if_icmp .ge 76, 3) := by decide +kernel
theorem dX1_grow_10 : decode cX1_grow 10 = .ok (.aload_n 0, 1) := by decide +kernel
theorem dX1_grow_11 : decode cX1_grow 11 = .ok (.iload_n 2, 1) := by decide +kernel
theorem dX1_grow_12 : decode cX1_grow 12 = .ok (.invokevirtual 39, 3) := by decide +kernel
theorem dX1_grow_15 : decode cX1_grow 15 = .ok (.istore_n 3, 1) := by decide +kernel
theorem dX1_grow_16 : decode cX1_grow 16 = .ok (.iload_n 3, 1) := by decide +kernel
theorem dX1_grow_17 : decode cX1_grow 17 = .ok (.iconst 3, 1) := by decide +kernel
theorem dX1_grow_18 : decode cX1_grow 18 = .ok (.if_icmp .ne 11, 3) := by decide +kernel
theorem dX1_grow_21 : decode cX1_grow 21 = .ok (.aload_n 0, 1) := by decide +kernel
theorem dX1_grow_22 : decode cX1_grow 22 = .ok (.iload_n 2, 1) := by decide +kernel
theorem dX1_grow_23 : decode cX1_grow 23 = .ok (.invokevirtual 46, 3) := by decide +kernel
theorem dX1_grow_26 : decode cX1_grow 26 = .ok (.goto 51, 3) := by decide +kernel
theorem dX1_grow_29 : decode cX1_grow 29 = .ok (.iload_n 3, 1) := by decide +kernel
theorem dX1_grow_30 : decode cX1_grow 30 = .ok (.ifCond .ne 30, 3) := by decide +kernel
theorem dX1_grow_33 : decode cX1_grow 33 = .ok (.iload_n 1, 1) := by decide +kernel
theorem dX1_grow_34 : decode cX1_grow 34 = .ok (.iconst 4, 1) := by decide +kernel
theorem dX1_grow_35 : decode cX1_grow 35 = .ok (.irem, 1) := by decide +kernel
theorem dX1_grow_36 : decode cX1_grow 36 = .ok (.ifCond .ne 24, 3) := by decide +kernel
theorem dX1_grow_39 : decode cX1_grow 39 = .ok (.aload_n 0, 1) := by decide +kernel
theorem dX1_grow_40 : decode cX1_grow 40 = .ok (.iload_n 2, 1) := by decide +kernel
theorem dX1_grow_41 : decode cX1_grow 41 = .ok (.iconst 0, 1) := by decide +kernel
theorem dX1_grow_42 : decode cX1_grow 42 = .ok (.aload_n 0, 1) := by decide +kernel
theorem dX1_grow_43 : decode cX1_grow 43 = .ok (.iload_n 2, 1) := by decide +kernel
theorem dX1_grow_44 : decode cX1_grow 44 = .ok (.invokevirtual 50, 3) := by decide +kernel
theorem dX1_grow_47 : decode cX1_grow 47 = .ok (.iconst 1, 1) := by decide +kernel
theorem dX1_grow_48 : decode cX1_grow 48 = .ok (.iadd, 1) := by decide +kernel
theorem dX1_grow_49 : decode cX1_grow 49 = .ok (.bipush 9, 2) := by decide +kernel
theorem dX1_grow_51 : decode cX1_grow 51 = .ok (.invokestatic 53, 3) := by decide +kernel
theorem dX1_grow_54 : decode cX1_grow 54 = .ok (.invokevirtual 31, 3) := by decide +kernel
theorem dX1_grow_57 : decode cX1_grow 57 = .ok (.goto 20, 3) := by decide +kernel
theorem dX1_grow_60 : decode cX1_grow 60 = .ok (.iload_n 3, 1) := by decide +kernel
theorem dX1_grow_61 : decode cX1_grow 61 = .ok (.iconst 1, 1) := by decide +kernel
theorem dX1_grow_62 : decode cX1_grow 62 = .ok (.if_icmp .ne 15, 3) := by decide +kernel
theorem dX1_grow_65 : decode cX1_grow 65 = .ok (.iload_n 1, 1) := by decide +kernel
theorem dX1_grow_66 : decode cX1_grow 66 = .ok (.bipush 52, 2) := by decide +kernel
theorem dX1_grow_68 : decode cX1_grow 68 = .ok (.irem, 1) := by decide +kernel
theorem dX1_grow_69 : decode cX1_grow 69 = .ok (.ifCond .ne 8, 3) := by decide +kernel
theorem dX1_grow_72 : decode cX1_grow 72 = .ok (.aload_n 0, 1) := by decide +kernel
theorem dX1_grow_73 : decode cX1_grow 73 = .ok (.iload_n 2, 1) := by decide +kernel
theorem dX1_grow_74 : decode cX1_grow 74 = .ok (.invokevirtual 59, 3) := by decide +kernel
theorem dX1_grow_77 : decode cX1_grow 77 = .ok (.iinc 2 1, 3) := by decide +kernel
theorem dX1_grow_80 : decode cX1_grow 80 = .ok (.goto (-78), 3) := by decide +kernel
theorem dX1_grow_83 : decode cX1_grow 83 = .ok (.return_, 1) := by decide +kernel
theorem dX1_growOlder_0 : decode cX1_growOlder 0 = .ok (.aload_n 0, 1) := by decide +kernel
theorem dX1_growOlder_1 : decode cX1_growOlder 1 = .ok (.iload_n 1, 1) := by decide +kernel
theorem dX1_growOlder_2 : decode cX1_growOlder 2 = .ok (.invokevirtual 62, 3) := by decide +kernel
theorem dX1_growOlder_5 : decode cX1_growOlder 5 = .ok (.iconst 1, 1) := by decide +kernel
theorem dX1_growOlder_6 : decode cX1_growOlder 6 = .ok (.iadd, 1) := by decide +kernel
theorem dX1_growOlder_7 : decode cX1_growOlder 7 = .ok (.bipush 6, 2) := by decide +kernel
theorem dX1_growOlder_9 : decode cX1_growOlder 9 = .ok (.if_icmp .lt 13, 3) := by decide +kernel
theorem dX1_growOlder_12 : decode cX1_growOlder 12 = .ok (.aload_n 0, 1) := by decide +kernel
theorem dX1_growOlder_13 : decode cX1_growOlder 13 = .ok (.iload_n 1, 1) := by decide +kernel
theorem dX1_growOlder_14 : decode cX1_growOlder 14 = .ok (.iconst 0, 1) := by decide +kernel
theorem dX1_growOlder_15 : decode cX1_growOlder 15 = .ok (.iconst 1, 1) := by decide +kernel
theorem dX1_growOlder_16 : decode cX1_growOlder 16 = .ok (.invokevirtual 31, 3) := by decide +kernel
theorem dX1_growOlder_19 : decode cX1_growOlder 19 = .ok (.goto 21, 3) := by decide +kernel
theorem dX1_growOlder_22 : decode cX1_growOlder 22 = .ok (.aload_n 0, 1) := by decide +kernel
theorem dX1_growOlder_23 : decode cX1_growOlder 23 = .ok (.iload_n 1, 1) := by decide +kernel
theorem dX1_growOlder_24 : decode cX1_growOlder 24 = .ok (.invokevirtual 35, 3) := by decide +kernel
theorem dX1_growOlder_27 : decode cX1_growOlder 27 = .ok (.ifCond .eq 13, 3) := by decide +kernel
theorem dX1_growOlder_30 : decode cX1_growOlder 30 = .ok (.aload_n 0, 1) := by decide +kernel
theorem dX1_growOlder_31 : decode cX1_growOlder 31 = .ok (.getfield 18, 3) := by decide +kernel
theorem dX1_growOlder_34 : decode cX1_growOlder 34 = .ok (.iload_n 1, 1) := by decide +kernel
theorem dX1_growOlder_35 : decode cX1_growOlder 35 = .ok (.dup2, 1) := by decide +kernel
theorem dX1_growOlder_36 : decode cX1_growOlder 36 = .ok (.iaload, 1) := by decide +kernel
theorem dX1_growOlder_37 : decode cX1_growOlder 37 = .ok (.iconst 1, 1) := by decide +kernel
theorem dX1_growOlder_38 : decode cX1_growOlder 38 = .ok (.iadd, 1) := by decide +kernel
theorem dX1_growOlder_39 : decode cX1_growOlder 39 = .ok (.iastore, 1) := by decide +kernel
theorem dX1_growOlder_40 : decode cX1_growOlder 40 = .ok (.return_, 1) := by decide +kernel
theorem dX1_growLaid_0 : decode cX1_growLaid 0 = .ok (.aload_n 0, 1) := by decide +kernel
theorem dX1_growLaid_1 : decode cX1_growLaid 1 = .ok (.iload_n 1, 1) := by decide +kernel
theorem dX1_growLaid_2 : decode cX1_growLaid 2 = .ok (.invokevirtual 50, 3) := by decide +kernel
theorem dX1_growLaid_5 : decode cX1_growLaid 5 = .ok (.iconst 2, 1) := by decide +kernel
theorem dX1_growLaid_6 : decode cX1_growLaid 6 = .ok (.iadd, 1) := by decide +kernel
theorem dX1_growLaid_7 : decode cX1_growLaid 7 = .ok (.istore_n 2, 1) := by decide +kernel
theorem dX1_growLaid_8 : decode cX1_growLaid 8 = .ok (.iload_n 2, 1) := by decide +kernel
theorem dX1_growLaid_9 : decode cX1_growLaid 9 = .ok (.bipush 9, 2) := by decide +kernel
theorem dX1_growLaid_11 : decode cX1_growLaid 11 = .ok (.if_icmp .le 14, 3) := by decide +kernel
theorem dX1_growLaid_14 : decode cX1_growLaid 14 = .ok (.aload_n 0, 1) := by decide +kernel
theorem dX1_growLaid_15 : decode cX1_growLaid 15 = .ok (.iload_n 1, 1) := by decide +kernel
theorem dX1_growLaid_16 : decode cX1_growLaid 16 = .ok (.iconst 0, 1) := by decide +kernel
theorem dX1_growLaid_17 : decode cX1_growLaid 17 = .ok (.bipush 9, 2) := by decide +kernel
theorem dX1_growLaid_19 : decode cX1_growLaid 19 = .ok (.invokevirtual 31, 3) := by decide +kernel
theorem dX1_growLaid_22 : decode cX1_growLaid 22 = .ok (.goto 10, 3) := by decide +kernel
theorem dX1_growLaid_25 : decode cX1_growLaid 25 = .ok (.aload_n 0, 1) := by decide +kernel
theorem dX1_growLaid_26 : decode cX1_growLaid 26 = .ok (.iload_n 1, 1) := by decide +kernel
theorem dX1_growLaid_27 : decode cX1_growLaid 27 = .ok (.iconst 1, 1) := by decide +kernel
theorem dX1_growLaid_28 : decode cX1_growLaid 28 = .ok (.iload_n 2, 1) := by decide +kernel
theorem dX1_growLaid_29 : decode cX1_growLaid 29 = .ok (.invokevirtual 31, 3) := by decide +kernel
theorem dX1_growLaid_32 : decode cX1_growLaid 32 = .ok (.return_, 1) := by decide +kernel
theorem dX1_workToLay_0 : decode cX1_workToLay 0 = .ok (.iconst 0, 1) := by decide +kernel
theorem dX1_workToLay_1 : decode cX1_workToLay 1 = .ok (.istore_n 1, 1) := by decide +kernel
theorem dX1_workToLay_2 : decode cX1_workToLay 2 = .ok (.iconst 0, 1) := by decide +kernel
theorem dX1_workToLay_3 : decode cX1_workToLay 3 = .ok (.istore_n 2, 1) := by decide +kernel
theorem dX1_workToLay_4 : decode cX1_workToLay 4 = .ok (.iload_n 2, 1) := by decide +kernel
theorem dX1_workToLay_5 : decode cX1_workToLay 5 = .ok (.aload_n 0, 1) := by decide +kernel
theorem dX1_workToLay_6 : decode cX1_workToLay 6 = .ok (.getfield 21, 3) := by decide +kernel
theorem dX1_workToLay_9 : decode cX1_workToLay 9 = .ok (.if_icmp .ge 25, 3) := by decide +kernel
theorem dX1_workToLay_12 : decode cX1_workToLay 12 = .ok (.aload_n 0, 1) := by decide +kernel
theorem dX1_workToLay_13 : decode cX1_workToLay 13 = .ok (.iload_n 2, 1) := by decide +kernel
theorem dX1_workToLay_14 : decode cX1_workToLay 14 = .ok (.invokevirtual 65, 3) := by decide +kernel
theorem dX1_workToLay_17 : decode cX1_workToLay 17 = .ok (.ifCond .eq 11, 3) := by decide +kernel
theorem dX1_workToLay_20 : decode cX1_workToLay 20 = .ok (.iload_n 1, 1) := by decide +kernel
theorem dX1_workToLay_21 : decode cX1_workToLay 21 = .ok (.aload_n 0, 1) := by decide +kernel
theorem dX1_workToLay_22 : decode cX1_workToLay 22 = .ok (.iload_n 2, 1) := by decide +kernel
theorem dX1_workToLay_23 : decode cX1_workToLay 23 = .ok (.invokevirtual 50, 3) := by decide +kernel
theorem dX1_workToLay_26 : decode cX1_workToLay 26 = .ok (.iadd, 1) := by decide +kernel
theorem dX1_workToLay_27 : decode cX1_workToLay 27 = .ok (.istore_n 1, 1) := by decide +kernel
theorem dX1_workToLay_28 : decode cX1_workToLay 28 = .ok (.iinc 2 1, 3) := by decide +kernel
theorem dX1_workToLay_31 : decode cX1_workToLay 31 = .ok (.goto (-27), 3) := by decide +kernel
theorem dX1_workToLay_34 : decode cX1_workToLay 34 = .ok (.iload_n 1, 1) := by decide +kernel
theorem dX1_workToLay_35 : decode cX1_workToLay 35 = .ok (.ireturn, 1) := by decide +kernel
theorem dX1_stakesToLay_0 : decode cX1_stakesToLay 0 = .ok (.iconst 0, 1) := by decide +kernel
theorem dX1_stakesToLay_1 : decode cX1_stakesToLay 1 = .ok (.istore_n 1, 1) := by decide +kernel
theorem dX1_stakesToLay_2 : decode cX1_stakesToLay 2 = .ok (.iconst 0, 1) := by decide +kernel
theorem dX1_stakesToLay_3 : decode cX1_stakesToLay 3 = .ok (.istore_n 2, 1) := by decide +kernel
theorem dX1_stakesToLay_4 : decode cX1_stakesToLay 4 = .ok (.iload_n 2, 1) := by decide +kernel
theorem dX1_stakesToLay_5 : decode cX1_stakesToLay 5 = .ok (.aload_n 0, 1) := by decide +kernel
theorem dX1_stakesToLay_6 : decode cX1_stakesToLay 6 = .ok (.getfield 21, 3) := by decide +kernel
theorem dX1_stakesToLay_9 : decode cX1_stakesToLay 9 = .ok (.if_icmp .ge 20, 3) := by decide +kernel
theorem dX1_stakesToLay_12 : decode cX1_stakesToLay 12 = .ok (.aload_n 0, 1) := by decide +kernel
theorem dX1_stakesToLay_13 : decode cX1_stakesToLay 13 = .ok (.iload_n 2, 1) := by decide +kernel
theorem dX1_stakesToLay_14 : decode cX1_stakesToLay 14 = .ok (.invokevirtual 65, 3) := by decide +kernel
theorem dX1_stakesToLay_17 : decode cX1_stakesToLay 17 = .ok (.ifCond .eq 6, 3) := by decide +kernel
theorem dX1_stakesToLay_20 : decode cX1_stakesToLay 20 = .ok (.iinc 1 2, 3) := by decide +kernel
theorem dX1_stakesToLay_23 : decode cX1_stakesToLay 23 = .ok (.iinc 2 1, 3) := by decide +kernel
theorem dX1_stakesToLay_26 : decode cX1_stakesToLay 26 = .ok (.goto (-22), 3) := by decide +kernel
theorem dX1_stakesToLay_29 : decode cX1_stakesToLay 29 = .ok (.iload_n 1, 1) := by decide +kernel
theorem dX1_stakesToLay_30 : decode cX1_stakesToLay 30 = .ok (.ireturn, 1) := by decide +kernel
theorem dX1_stakesToCut_0 : decode cX1_stakesToCut 0 = .ok (.iconst 0, 1) := by decide +kernel
theorem dX1_stakesToCut_1 : decode cX1_stakesToCut 1 = .ok (.istore_n 1, 1) := by decide +kernel
theorem dX1_stakesToCut_2 : decode cX1_stakesToCut 2 = .ok (.iconst 0, 1) := by decide +kernel
theorem dX1_stakesToCut_3 : decode cX1_stakesToCut 3 = .ok (.istore_n 2, 1) := by decide +kernel
theorem dX1_stakesToCut_4 : decode cX1_stakesToCut 4 = .ok (.iload_n 2, 1) := by decide +kernel
theorem dX1_stakesToCut_5 : decode cX1_stakesToCut 5 = .ok (.aload_n 0, 1) := by decide +kernel
theorem dX1_stakesToCut_6 : decode cX1_stakesToCut 6 = .ok (.getfield 21, 3) := by decide +kernel
theorem dX1_stakesToCut_9 : decode cX1_stakesToCut 9 = .ok (.if_icmp .ge 28, 3) := by decide +kernel
theorem dX1_stakesToCut_12 : decode cX1_stakesToCut 12 = .ok (.aload_n 0, 1) := by decide +kernel
theorem dX1_stakesToCut_13 : decode cX1_stakesToCut 13 = .ok (.iload_n 2, 1) := by decide +kernel
theorem dX1_stakesToCut_14 : decode cX1_stakesToCut 14 = .ok (.invokevirtual 39, 3) := by decide +kernel
theorem dX1_stakesToCut_17 : decode cX1_stakesToCut 17 = .ok (.ifCond .ne 14, 3) := by decide +kernel
theorem dX1_stakesToCut_20 : decode cX1_stakesToCut 20 = .ok (.iload_n 1, 1) := by decide +kernel
theorem dX1_stakesToCut_21 : decode cX1_stakesToCut 21 = .ok (.aload_n 0, 1) := by decide +kernel
theorem dX1_stakesToCut_22 : decode cX1_stakesToCut 22 = .ok (.iload_n 2, 1) := by decide +kernel
theorem dX1_stakesToCut_23 : decode cX1_stakesToCut 23 = .ok (.invokevirtual 50, 3) := by decide +kernel
theorem dX1_stakesToCut_26 : decode cX1_stakesToCut 26 = .ok (.invokestatic 68, 3) := by decide +kernel
theorem dX1_stakesToCut_29 : decode cX1_stakesToCut 29 = .ok (.iadd, 1) := by decide +kernel
theorem dX1_stakesToCut_30 : decode cX1_stakesToCut 30 = .ok (.istore_n 1, 1) := by decide +kernel
theorem dX1_stakesToCut_31 : decode cX1_stakesToCut 31 = .ok (.iinc 2 1, 3) := by decide +kernel
theorem dX1_stakesToCut_34 : decode cX1_stakesToCut 34 = .ok (.goto (-30), 3) := by decide +kernel
theorem dX1_stakesToCut_37 : decode cX1_stakesToCut 37 = .ok (.iload_n 1, 1) := by decide +kernel
theorem dX1_stakesToCut_38 : decode cX1_stakesToCut 38 = .ok (.ireturn, 1) := by decide +kernel
theorem dX1_stakesOf_0 : decode cX1_stakesOf 0 = .ok (.iconst 0, 1) := by decide +kernel
theorem dX1_stakesOf_1 : decode cX1_stakesOf 1 = .ok (.istore_n 1, 1) := by decide +kernel
theorem dX1_stakesOf_2 : decode cX1_stakesOf 2 = .ok (.iload_n 0, 1) := by decide +kernel
theorem dX1_stakesOf_3 : decode cX1_stakesOf 3 = .ok (.istore_n 2, 1) := by decide +kernel
theorem dX1_stakesOf_4 : decode cX1_stakesOf 4 = .ok (.iload_n 2, 1) := by decide +kernel
theorem dX1_stakesOf_5 : decode cX1_stakesOf 5 = .ok (.iconst 3, 1) := by decide +kernel
theorem dX1_stakesOf_6 : decode cX1_stakesOf 6 = .ok (.if_icmp .lt 13, 3) := by decide +kernel
theorem dX1_stakesOf_9 : decode cX1_stakesOf 9 = .ok (.iload_n 1, 1) := by decide +kernel
theorem dX1_stakesOf_10 : decode cX1_stakesOf 10 = .ok (.iload_n 2, 1) := by decide +kernel
theorem dX1_stakesOf_11 : decode cX1_stakesOf 11 = .ok (.iadd, 1) := by decide +kernel
theorem dX1_stakesOf_12 : decode cX1_stakesOf 12 = .ok (.istore_n 1, 1) := by decide +kernel
theorem dX1_stakesOf_13 : decode cX1_stakesOf 13 = .ok (.iinc 2 (-2), 3) := by decide +kernel
theorem dX1_stakesOf_16 : decode cX1_stakesOf 16 = .ok (.goto (-12), 3) := by decide +kernel
theorem dX1_stakesOf_19 : decode cX1_stakesOf 19 = .ok (.iload_n 1, 1) := by decide +kernel
theorem dX1_stakesOf_20 : decode cX1_stakesOf 20 = .ok (.ireturn, 1) := by decide +kernel
theorem dX2_init_0 : decode cX2_init 0 = .ok (.aload_n 0, 1) := by decide +kernel
theorem dX2_init_1 : decode cX2_init 1 = .ok (.invokespecial 3, 3) := by decide +kernel
theorem dX2_init_4 : decode cX2_init 4 = .ok (.aload_n 0, 1) := by decide +kernel
theorem dX2_init_5 : decode cX2_init 5 = .ok (.new 9, 3) := by decide +kernel
theorem dX2_init_8 : decode cX2_init 8 = .ok (.dup, 1) := by decide +kernel
theorem dX2_init_9 : decode cX2_init 9 = .ok (.invokespecial 11, 3) := by decide +kernel
theorem dX2_init_12 : decode cX2_init 12 = .ok (.putfield 12, 3) := by decide +kernel
theorem dX2_init_15 : decode cX2_init 15 = .ok (.aload_n 0, 1) := by decide +kernel
theorem dX2_init_16 : decode cX2_init 16 = .ok (.iconst 0, 1) := by decide +kernel
theorem dX2_init_17 : decode cX2_init 17 = .ok (.putfield 18, 3) := by decide +kernel
theorem dX2_init_20 : decode cX2_init 20 = .ok (.aload_n 0, 1) := by decide +kernel
theorem dX2_init_21 : decode cX2_init 21 = .ok (.iconst 0, 1) := by decide +kernel
theorem dX2_init_22 : decode cX2_init 22 = .ok (.putfield 22, 3) := by decide +kernel
theorem dX2_init_25 : decode cX2_init 25 = .ok (.return_, 1) := by decide +kernel
theorem dX2_faultOf_0 : decode cX2_faultOf 0 = .ok (.aload_n 0, 1) := by decide +kernel
theorem dX2_faultOf_1 : decode cX2_faultOf 1 = .ok (.getfield 12, 3) := by decide +kernel
theorem dX2_faultOf_4 : decode cX2_faultOf 4 = .ok (.iconst 0, 1) := by decide +kernel
theorem dX2_faultOf_5 : decode cX2_faultOf 5 = .ok (.putfield 25, 3) := by decide +kernel
theorem dX2_faultOf_8 : decode cX2_faultOf 8 = .ok (.aload_n 0, 1) := by decide +kernel
theorem dX2_faultOf_9 : decode cX2_faultOf 9 = .ok (.iconst 0, 1) := by decide +kernel
theorem dX2_faultOf_10 : decode cX2_faultOf 10 = .ok (.putfield 18, 3) := by decide +kernel
theorem dX2_faultOf_13 : decode cX2_faultOf 13 = .ok (.aload_n 0, 1) := by decide +kernel
theorem dX2_faultOf_14 : decode cX2_faultOf 14 = .ok (.iconst 0, 1) := by decide +kernel
theorem dX2_faultOf_15 : decode cX2_faultOf 15 = .ok (.putfield 22, 3) := by decide +kernel
theorem dX2_faultOf_18 : decode cX2_faultOf 18 = .ok (.iconst 0, 1) := by decide +kernel
theorem dX2_faultOf_19 : decode cX2_faultOf 19 = .ok (.istore_n 2, 1) := by decide +kernel
theorem dX2_faultOf_20 : decode cX2_faultOf 20 = .ok (.iload_n 2, 1) := by decide +kernel
theorem dX2_faultOf_21 : decode cX2_faultOf 21 = .ok (.bipush 80, 2) := by decide +kernel
theorem dX2_faultOf_23 : decode cX2_faultOf 23 = .ok (.if_icmp .ge 35, 3) := by decide +kernel
theorem dX2_faultOf_26 : decode cX2_faultOf 26 = .ok (.aload_n 0, 1) := by decide +kernel
theorem dX2_faultOf_27 : decode cX2_faultOf 27 = .ok (.aload_n 1, 1) := by decide +kernel
theorem dX2_faultOf_28 : decode cX2_faultOf 28 = .ok (.invokevirtual 28, 3) := by decide +kernel
theorem dX2_faultOf_31 : decode cX2_faultOf 31 = .ok (.ifCond .ne 8, 3) := by decide +kernel
theorem dX2_faultOf_34 : decode cX2_faultOf 34 = .ok (.aload_n 0, 1) := by decide +kernel
theorem dX2_faultOf_35 : decode cX2_faultOf 35 = .ok (.getfield 22, 3) := by decide +kernel
theorem dX2_faultOf_38 : decode cX2_faultOf 38 = .ok (.ireturn, 1) := by decide +kernel
theorem dX2_faultOf_39 : decode cX2_faultOf 39 = .ok (.aload_n 0, 1) := by decide +kernel
theorem dX2_faultOf_40 : decode cX2_faultOf 40 = .ok (.getfield 22, 3) := by decide +kernel
theorem dX2_faultOf_43 : decode cX2_faultOf 43 = .ok (.aload_n 1, 1) := by decide +kernel
theorem dX2_faultOf_44 : decode cX2_faultOf 44 = .ok (.getfield 32, 3) := by decide +kernel
theorem dX2_faultOf_47 : decode cX2_faultOf 47 = .ok (.if_icmp .lt 5, 3) := by decide +kernel
theorem dX2_faultOf_50 : decode cX2_faultOf 50 = .ok (.iconst (-1), 1) := by decide +kernel
theorem dX2_faultOf_51 : decode cX2_faultOf 51 = .ok (.ireturn, 1) := by decide +kernel
theorem dX2_faultOf_52 : decode cX2_faultOf 52 = .ok (.iinc 2 1, 3) := by decide +kernel
theorem dX2_faultOf_55 : decode cX2_faultOf 55 = .ok (.goto (-35), 3) := by decide +kernel
theorem dX2_faultOf_58 : decode cX2_faultOf 58 = .ok (.aload_n 0, 1) := by decide +kernel
theorem dX2_faultOf_59 : decode cX2_faultOf 59 = .ok (.getfield 22, 3) := by decide +kernel
theorem dX2_faultOf_62 : decode cX2_faultOf 62 = .ok (.ireturn, 1) := by decide +kernel
theorem dX2_readPart_0 : decode cX2_readPart 0 = .ok (.aload_n 1, 1) := by decide +kernel
theorem dX2_readPart_1 : decode cX2_readPart 1 = .ok (.aload_n 0, 1) := by decide +kernel
theorem dX2_readPart_2 : decode cX2_readPart 2 = .ok (.getfield 22, 3) := by decide +kernel
theorem dX2_readPart_5 : decode cX2_readPart 5 = .ok (.invokevirtual 35, 3) := by decide +kernel
theorem dX2_readPart_8 : decode cX2_readPart 8 = .ok (.invokestatic 39, 3) := by decide +kernel
theorem dX2_readPart_11 : decode cX2_readPart 11 = .ok (.istore_n 2, 1) := by decide +kernel
theorem dX2_readPart_12 : decode cX2_readPart 12 = .ok (.iload_n 2, 1) := by decide +kernel
theorem dX2_readPart_13 : decode cX2_readPart 13 = .ok (.iconst (-1), 1) := by decide +kernel
theorem dX2_readPart_14 : decode cX2_readPart 14 = .ok (.if_icmp .ne 5, 3) := by decide +kernel
theorem dX2_readPart_17 : decode cX2_readPart 17 = .ok (.iconst 0, 1) := by decide +kernel
theorem dX2_readPart_18 : decode cX2_readPart 18 = .ok (.ireturn, 1) := by decide +kernel
theorem dX2_readPart_19 : decode cX2_readPart 19 = .ok (.aload_n 0, 1) := by decide +kernel
theorem dX2_readPart_20 : decode cX2_readPart 20 = .ok (.dup, 1) := by decide +kernel
theorem dX2_readPart_21 : decode cX2_readPart 21 = .ok (.getfield 22, 3) := by decide +kernel
theorem dX2_readPart_24 : decode cX2_readPart 24 = .ok (.iconst 1, 1) := by decide +kernel
theorem dX2_readPart_25 : decode cX2_readPart 25 = .ok (.iadd, 1) := by decide +kernel
theorem dX2_readPart_26 : decode cX2_readPart 26 = .ok (.putfield 22, 3) := by decide +kernel
theorem dX2_readPart_29 : decode cX2_readPart 29 = .ok (.iconst 0, 1) := by decide +kernel
theorem dX2_readPart_30 : decode cX2_readPart 30 = .ok (.istore_n 3, 1) := by decide +kernel
theorem dX2_readPart_31 : decode cX2_readPart 31 = .ok (.iload_n 2, 1) := by decide +kernel
theorem dX2_readPart_32 : decode cX2_readPart 32 = .ok (.ifCond .eq 8, 3) := by decide +kernel
theorem dX2_readPart_35 : decode cX2_readPart 35 = .ok (.iload_n 2, 1) := by decide +kernel
theorem dX2_readPart_36 : decode cX2_readPart 36 = .ok (.iconst 1, 1) := by decide +kernel
theorem dX2_readPart_37 : decode cX2_readPart 37 = .ok (.if_icmp .ne 32, 3) := by decide +kernel
theorem dX2_readPart_40 : decode cX2_readPart 40 = .ok (.aload_n 1, 1) := by decide +kernel
theorem dX2_readPart_41 : decode cX2_readPart 41 = .ok (.aload_n 0, 1) := by decide +kernel
theorem dX2_readPart_42 : decode cX2_readPart 42 = .ok (.getfield 22, 3) := by decide +kernel
theorem dX2_readPart_45 : decode cX2_readPart 45 = .ok (.invokevirtual 35, 3) := by decide +kernel
theorem dX2_readPart_48 : decode cX2_readPart 48 = .ok (.invokestatic 43, 3) := by decide +kernel
theorem dX2_readPart_51 : decode cX2_readPart 51 = .ok (.istore_n 3, 1) := by decide +kernel
theorem dX2_readPart_52 : decode cX2_readPart 52 = .ok (.iload_n 3, 1) := by decide +kernel
theorem dX2_readPart_53 : decode cX2_readPart 53 = .ok (.iconst 1, 1) := by decide +kernel
theorem dX2_readPart_54 : decode cX2_readPart 54 = .ok (.if_icmp .ge 5, 3) := by decide +kernel
theorem dX2_readPart_57 : decode cX2_readPart 57 = .ok (.iconst 0, 1) := by decide +kernel
theorem dX2_readPart_58 : decode cX2_readPart 58 = .ok (.ireturn, 1) := by decide +kernel
theorem dX2_readPart_59 : decode cX2_readPart 59 = .ok (.aload_n 0, 1) := by decide +kernel
theorem dX2_readPart_60 : decode cX2_readPart 60 = .ok (.dup, 1) := by decide +kernel
theorem dX2_readPart_61 : decode cX2_readPart 61 = .ok (.getfield 22, 3) := by decide +kernel
theorem dX2_readPart_64 : decode cX2_readPart 64 = .ok (.iconst 1, 1) := by decide +kernel
theorem dX2_readPart_65 : decode cX2_readPart 65 = .ok (.iadd, 1) := by decide +kernel
theorem dX2_readPart_66 : decode cX2_readPart 66 = .ok (.putfield 22, 3) := by decide +kernel
theorem dX2_readPart_69 : decode cX2_readPart 69 = .ok (.iconst 1, 1) := by decide +kernel
theorem dX2_readPart_70 : decode cX2_readPart 70 = .ok (.istore 4, 2) := by decide +kernel
theorem dX2_readPart_72 : decode cX2_readPart 72 = .ok (.aload_n 1, 1) := by decide +kernel
theorem dX2_readPart_73 : decode cX2_readPart 73 = .ok (.aload_n 0, 1) := by decide +kernel
theorem dX2_readPart_74 : decode cX2_readPart 74 = .ok (.getfield 22, 3) := by decide +kernel
theorem dX2_readPart_77 : decode cX2_readPart 77 = .ok (.invokevirtual 35, 3) := by decide +kernel
theorem dX2_readPart_80 : decode cX2_readPart 80 = .ok (.bipush 42, 2) := by decide +kernel
theorem dX2_readPart_82 : decode cX2_readPart 82 = .ok (.if_icmp .ne 20, 3) := by decide +kernel
theorem dX2_readPart_85 : decode cX2_readPart 85 = .ok (.aload_n 0, 1) := by decide +kernel
theorem dX2_readPart_86 : decode cX2_readPart 86 = .ok (.dup, 1) := by decide +kernel
theorem dX2_readPart_87 : decode cX2_readPart 87 = .ok (.getfield 22, 3) := by decide +kernel
theorem dX2_readPart_90 : decode cX2_readPart 90 = .ok (.iconst 1, 1) := by decide +kernel
theorem dX2_readPart_91 : decode cX2_readPart 91 = .ok (.iadd, 1) := by decide +kernel
theorem dX2_readPart_92 : decode cX2_readPart 92 = .ok (.putfield 22, 3) := by decide +kernel
theorem dX2_readPart_95 : decode cX2_readPart 95 = .ok (.aload_n 0, 1) := by decide +kernel
theorem dX2_readPart_96 : decode cX2_readPart 96 = .ok (.aload_n 1, 1) := by decide +kernel
theorem dX2_readPart_97 : decode cX2_readPart 97 = .ok (.invokevirtual 46, 3) := by decide +kernel
theorem dX2_readPart_100 : decode cX2_readPart 100 = .ok (.istore 4, 2) := by decide +kernel
theorem dX2_readPart_102 : decode cX2_readPart 102 = .ok (.aload_n 0, 1) := by decide +kernel
theorem dX2_readPart_103 : decode cX2_readPart 103 = .ok (.dup, 1) := by decide +kernel
theorem dX2_readPart_104 : decode cX2_readPart 104 = .ok (.getfield 18, 3) := by decide +kernel
theorem dX2_readPart_107 : decode cX2_readPart 107 = .ok (.iload 4, 2) := by decide +kernel
theorem dX2_readPart_109 : decode cX2_readPart 109 = .ok (.iadd, 1) := by decide +kernel
theorem dX2_readPart_110 : decode cX2_readPart 110 = .ok (.putfield 18, 3) := by decide +kernel
theorem dX2_readPart_113 : decode cX2_readPart 113 = .ok (.aload_n 0, 1) := by decide +kernel
theorem dX2_readPart_114 : decode cX2_readPart 114 = .ok (.getfield 12, 3) := by decide +kernel
theorem dX2_readPart_117 : decode cX2_readPart 117 = .ok (.iload_n 2, 1) := by decide +kernel
theorem dX2_readPart_118 : decode cX2_readPart 118 = .ok (.iload_n 3, 1) := by decide +kernel
theorem dX2_readPart_119 : decode cX2_readPart 119 = .ok (.iload 4, 2) := by decide +kernel
theorem dX2_readPart_121 : decode cX2_readPart 121 = .ok (.invokevirtual 50, 3) := by decide +kernel
theorem dX2_readPart_124 : decode cX2_readPart 124 = .ok (.iload 4, 2) := by decide +kernel
theorem dX2_readPart_126 : decode cX2_readPart 126 = .ok (.ifCond .le 7, 3) := by decide +kernel
theorem dX2_readPart_129 : decode cX2_readPart 129 = .ok (.iconst 1, 1) := by decide +kernel
theorem dX2_readPart_130 : decode cX2_readPart 130 = .ok (.goto 4, 3) := by decide +kernel
theorem dX2_readPart_133 : decode cX2_readPart 133 = .ok (.iconst 0, 1) := by decide +kernel
theorem dX2_readPart_134 : decode cX2_readPart 134 = .ok (.ireturn, 1) := by decide +kernel
theorem dX2_readNumber_0 : decode cX2_readNumber 0 = .ok (.aload_n 1, 1) := by decide +kernel
theorem dX2_readNumber_1 : decode cX2_readNumber 1 = .ok (.aload_n 0, 1) := by decide +kernel
theorem dX2_readNumber_2 : decode cX2_readNumber 2 = .ok (.getfield 22, 3) := by decide +kernel
theorem dX2_readNumber_5 : decode cX2_readNumber 5 = .ok (.invokevirtual 35, 3) := by decide +kernel
theorem dX2_readNumber_8 : decode cX2_readNumber 8 = .ok (.invokestatic 43, 3) := by decide +kernel
theorem dX2_readNumber_11 : decode cX2_readNumber 11 = .ok (.istore_n 2, 1) := by decide +kernel
theorem dX2_readNumber_12 : decode cX2_readNumber 12 = .ok (.iload_n 2, 1) := by decide +kernel
theorem dX2_readNumber_13 : decode cX2_readNumber 13 = .ok (.iconst 1, 1) := by decide +kernel
theorem dX2_readNumber_14 : decode cX2_readNumber 14 = .ok (.if_icmp .ge 5, 3) := by decide +kernel
theorem dX2_readNumber_17 : decode cX2_readNumber 17 = .ok (.iconst 0, 1) := by decide +kernel
theorem dX2_readNumber_18 : decode cX2_readNumber 18 = .ok (.ireturn, 1) := by decide +kernel
theorem dX2_readNumber_19 : decode cX2_readNumber 19 = .ok (.aload_n 0, 1) := by decide +kernel
theorem dX2_readNumber_20 : decode cX2_readNumber 20 = .ok (.dup, 1) := by decide +kernel
theorem dX2_readNumber_21 : decode cX2_readNumber 21 = .ok (.getfield 22, 3) := by decide +kernel
theorem dX2_readNumber_24 : decode cX2_readNumber 24 = .ok (.iconst 1, 1) := by decide +kernel
theorem dX2_readNumber_25 : decode cX2_readNumber 25 = .ok (.iadd, 1) := by decide +kernel
theorem dX2_readNumber_26 : decode cX2_readNumber 26 = .ok (.putfield 22, 3) := by decide +kernel
theorem dX2_readNumber_29 : decode cX2_readNumber 29 = .ok (.aload_n 0, 1) := by decide +kernel
theorem dX2_readNumber_30 : decode cX2_readNumber 30 = .ok (.getfield 22, 3) := by decide +kernel
theorem dX2_readNumber_33 : decode cX2_readNumber 33 = .ok (.aload_n 1, 1) := by decide +kernel
theorem dX2_readNumber_34 : decode cX2_readNumber 34 = .ok (.getfield 32, 3) := by decide +kernel
theorem dX2_readNumber_37 : decode cX2_readNumber 37 = .ok (.if_icmp .ge 55, 3) := by decide +kernel
theorem dX2_readNumber_40 : decode cX2_readNumber 40 = .ok (.aload_n 1, 1) := by decide +kernel
theorem dX2_readNumber_41 : decode cX2_readNumber 41 = .ok (.aload_n 0, 1) := by decide +kernel
theorem dX2_readNumber_42 : decode cX2_readNumber 42 = .ok (.getfield 22, 3) := by decide +kernel
theorem dX2_readNumber_45 : decode cX2_readNumber 45 = .ok (.invokevirtual 35, 3) := by decide +kernel
theorem dX2_readNumber_48 : decode cX2_readNumber 48 = .ok (.invokestatic 43, 3) := by decide +kernel
theorem dX2_readNumber_51 : decode cX2_readNumber 51 = .ok (.ifCond .lt 41, 3) := by decide +kernel
theorem dX2_readNumber_54 : decode cX2_readNumber 54 = .ok (.iload_n 2, 1) := by decide +kernel
theorem dX2_readNumber_55 : decode cX2_readNumber 55 = .ok (.bipush 10, 2) := by decide +kernel
theorem dX2_readNumber_57 : decode cX2_readNumber 57 = .ok (.imul, 1) := by decide +kernel
theorem dX2_readNumber_58 : decode cX2_readNumber 58 = .ok (.aload_n 1, 1) := by decide +kernel
theorem dX2_readNumber_59 : decode cX2_readNumber 59 = .ok (.aload_n 0, 1) := by decide +kernel
theorem dX2_readNumber_60 : decode cX2_readNumber 60 = .ok (.getfield 22, 3) := by decide +kernel
theorem dX2_readNumber_63 : decode cX2_readNumber 63 = .ok (.invokevirtual 35, 3) := by decide +kernel
theorem dX2_readNumber_66 : decode cX2_readNumber 66 = .ok (.invokestatic 43, 3) := by decide +kernel
theorem dX2_readNumber_69 : decode cX2_readNumber 69 = .ok (.iadd, 1) := by decide +kernel
theorem dX2_readNumber_70 : decode cX2_readNumber 70 = .ok (.istore_n 2, 1) := by decide +kernel
theorem dX2_readNumber_71 : decode cX2_readNumber 71 = .ok (.iload_n 2, 1) := by decide +kernel
theorem dX2_readNumber_72 : decode cX2_readNumber 72 = .ok (.bipush 30, 2) := by decide +kernel
theorem dX2_readNumber_74 : decode cX2_readNumber 74 = .ok (.if_icmp .le 5, 3) := by decide +kernel
theorem dX2_readNumber_77 : decode cX2_readNumber 77 = .ok (.iconst 0, 1) := by decide +kernel
theorem dX2_readNumber_78 : decode cX2_readNumber 78 = .ok (.ireturn, 1) := by decide +kernel
theorem dX2_readNumber_79 : decode cX2_readNumber 79 = .ok (.aload_n 0, 1) := by decide +kernel
theorem dX2_readNumber_80 : decode cX2_readNumber 80 = .ok (.dup, 1) := by decide +kernel
theorem dX2_readNumber_81 : decode cX2_readNumber 81 = .ok (.getfield 22, 3) := by decide +kernel
theorem dX2_readNumber_84 : decode cX2_readNumber 84 = .ok (.iconst 1, 1) := by decide +kernel
theorem dX2_readNumber_85 : decode cX2_readNumber 85 = .ok (.iadd, 1) := by decide +kernel
theorem dX2_readNumber_86 : decode cX2_readNumber 86 = .ok (.putfield 22, 3) := by decide +kernel
theorem dX2_readNumber_89 : decode cX2_readNumber 89 = .ok (.goto (-60), 3) := by decide +kernel
theorem dX2_readNumber_92 : decode cX2_readNumber 92 = .ok (.iload_n 2, 1) := by decide +kernel
theorem dX2_readNumber_93 : decode cX2_readNumber 93 = .ok (.ireturn, 1) := by decide +kernel
theorem dX2_kindFor_0 : decode cX2_kindFor 0 = .ok (.iload_n 0, 1) := by decide +kernel
theorem dX2_kindFor_1 : decode cX2_kindFor 1 = .ok (.lookupswitch 51 #[(103, 47), (108, 45), (112, 49), (116, 43)], 43) := by decide +kernel
theorem dX2_kindFor_44 : decode cX2_kindFor 44 = .ok (.iconst 0, 1) := by decide +kernel
theorem dX2_kindFor_45 : decode cX2_kindFor 45 = .ok (.ireturn, 1) := by decide +kernel
theorem dX2_kindFor_46 : decode cX2_kindFor 46 = .ok (.iconst 1, 1) := by decide +kernel
theorem dX2_kindFor_47 : decode cX2_kindFor 47 = .ok (.ireturn, 1) := by decide +kernel
theorem dX2_kindFor_48 : decode cX2_kindFor 48 = .ok (.iconst 2, 1) := by decide +kernel
theorem dX2_kindFor_49 : decode cX2_kindFor 49 = .ok (.ireturn, 1) := by decide +kernel
theorem dX2_kindFor_50 : decode cX2_kindFor 50 = .ok (.iconst 3, 1) := by decide +kernel
theorem dX2_kindFor_51 : decode cX2_kindFor 51 = .ok (.ireturn, 1) := by decide +kernel
theorem dX2_kindFor_52 : decode cX2_kindFor 52 = .ok (.iconst (-1), 1) := by decide +kernel
theorem dX2_kindFor_53 : decode cX2_kindFor 53 = .ok (.ireturn, 1) := by decide +kernel
theorem dX2_digitFor_0 : decode cX2_digitFor 0 = .ok (.iload_n 0, 1) := by decide +kernel
theorem dX2_digitFor_1 : decode cX2_digitFor 1 = .ok (.bipush 48, 2) := by decide +kernel
theorem dX2_digitFor_3 : decode cX2_digitFor 3 = .ok (.if_icmp .lt 16, 3) := by decide +kernel
theorem dX2_digitFor_6 : decode cX2_digitFor 6 = .ok (.iload_n 0, 1) := by decide +kernel
theorem dX2_digitFor_7 : decode cX2_digitFor 7 = .ok (.bipush 57, 2) := by decide +kernel
theorem dX2_digitFor_9 : decode cX2_digitFor 9 = .ok (.if_icmp .gt 10, 3) := by decide +kernel
theorem dX2_digitFor_12 : decode cX2_digitFor 12 = .ok (.iload_n 0, 1) := by decide +kernel
theorem dX2_digitFor_13 : decode cX2_digitFor 13 = .ok (.bipush 48, 2) := by decide +kernel
theorem dX2_digitFor_15 : decode cX2_digitFor 15 = .ok (.isub, 1) := by decide +kernel
theorem dX2_digitFor_16 : decode cX2_digitFor 16 = .ok (.goto 4, 3) := by decide +kernel
theorem dX2_digitFor_19 : decode cX2_digitFor 19 = .ok (.iconst (-1), 1) := by decide +kernel
theorem dX2_digitFor_20 : decode cX2_digitFor 20 = .ok (.ireturn, 1) := by decide +kernel
theorem dX3_init_0 : decode cX3_init 0 = .ok (.aload_n 0, 1) := by decide +kernel
theorem dX3_init_1 : decode cX3_init 1 = .ok (.invokespecial 3, 3) := by decide +kernel
theorem dX3_init_4 : decode cX3_init 4 = .ok (.aload_n 0, 1) := by decide +kernel
theorem dX3_init_5 : decode cX3_init 5 = .ok (.iconst 5, 1) := by decide +kernel
theorem dX3_init_6 : decode cX3_init 6 = .ok (.anewarray 9, 3) := by decide +kernel
theorem dX3_init_9 : decode cX3_init 9 = .ok (.putfield 11, 3) := by decide +kernel
theorem dX3_init_12 : decode cX3_init 12 = .ok (.iconst 0, 1) := by decide +kernel
theorem dX3_init_13 : decode cX3_init 13 = .ok (.istore_n 1, 1) := by decide +kernel
theorem dX3_init_14 : decode cX3_init 14 = .ok (.iload_n 1, 1) := by decide +kernel
theorem dX3_init_15 : decode cX3_init 15 = .ok (.iconst 5, 1) := by decide +kernel
theorem dX3_init_16 : decode cX3_init 16 = .ok (.if_icmp .ge 22, 3) := by decide +kernel
theorem dX3_init_19 : decode cX3_init 19 = .ok (.aload_n 0, 1) := by decide +kernel
theorem dX3_init_20 : decode cX3_init 20 = .ok (.getfield 11, 3) := by decide +kernel
theorem dX3_init_23 : decode cX3_init 23 = .ok (.iload_n 1, 1) := by decide +kernel
theorem dX3_init_24 : decode cX3_init 24 = .ok (.new 9, 3) := by decide +kernel
theorem dX3_init_27 : decode cX3_init 27 = .ok (.dup, 1) := by decide +kernel
theorem dX3_init_28 : decode cX3_init 28 = .ok (.invokespecial 17, 3) := by decide +kernel
theorem dX3_init_31 : decode cX3_init 31 = .ok (.aastore, 1) := by decide +kernel
theorem dX3_init_32 : decode cX3_init 32 = .ok (.iinc 1 1, 3) := by decide +kernel
theorem dX3_init_35 : decode cX3_init 35 = .ok (.goto (-21), 3) := by decide +kernel
theorem dX3_init_38 : decode cX3_init 38 = .ok (.aload_n 0, 1) := by decide +kernel
theorem dX3_init_39 : decode cX3_init 39 = .ok (.iconst 0, 1) := by decide +kernel
theorem dX3_init_40 : decode cX3_init 40 = .ok (.putfield 18, 3) := by decide +kernel
theorem dX3_init_43 : decode cX3_init 43 = .ok (.aload_n 0, 1) := by decide +kernel
theorem dX3_init_44 : decode cX3_init 44 = .ok (.iconst 0, 1) := by decide +kernel
theorem dX3_init_45 : decode cX3_init 45 = .ok (.putfield 22, 3) := by decide +kernel
theorem dX3_init_48 : decode cX3_init 48 = .ok (.return_, 1) := by decide +kernel
theorem dX3_keep_0 : decode cX3_keep 0 = .ok (.aload_n 0, 1) := by decide +kernel
theorem dX3_keep_1 : decode cX3_keep 1 = .ok (.getfield 11, 3) := by decide +kernel
theorem dX3_keep_4 : decode cX3_keep 4 = .ok (.aload_n 0, 1) := by decide +kernel
theorem dX3_keep_5 : decode cX3_keep 5 = .ok (.getfield 18, 3) := by decide +kernel
theorem dX3_keep_8 : decode cX3_keep 8 = .ok (.aaload, 1) := by decide +kernel
theorem dX3_keep_9 : decode cX3_keep 9 = .ok (.aload_n 1, 1) := by decide +kernel
theorem dX3_keep_10 : decode cX3_keep 10 = .ok (.invokevirtual 25, 3) := by decide +kernel
theorem dX3_keep_13 : decode cX3_keep 13 = .ok (.aload_n 0, 1) := by decide +kernel
theorem dX3_keep_14 : decode cX3_keep 14 = .ok (.aload_n 0, 1) := by decide +kernel
theorem dX3_keep_15 : decode cX3_keep 15 = .ok (.getfield 18, 3) := by decide +kernel
theorem dX3_keep_18 : decode cX3_keep 18 = .ok (.iconst 1, 1) := by decide +kernel
theorem dX3_keep_19 : decode cX3_keep 19 = .ok (.iadd, 1) := by decide +kernel
theorem dX3_keep_20 : decode cX3_keep 20 = .ok (.iconst 5, 1) := by decide +kernel
theorem dX3_keep_21 : decode cX3_keep 21 = .ok (.irem, 1) := by decide +kernel
theorem dX3_keep_22 : decode cX3_keep 22 = .ok (.putfield 18, 3) := by decide +kernel
theorem dX3_keep_25 : decode cX3_keep 25 = .ok (.aload_n 0, 1) := by decide +kernel
theorem dX3_keep_26 : decode cX3_keep 26 = .ok (.aload_n 0, 1) := by decide +kernel
theorem dX3_keep_27 : decode cX3_keep 27 = .ok (.getfield 22, 3) := by decide +kernel
theorem dX3_keep_30 : decode cX3_keep 30 = .ok (.iconst 1, 1) := by decide +kernel
theorem dX3_keep_31 : decode cX3_keep 31 = .ok (.iadd, 1) := by decide +kernel
theorem dX3_keep_32 : decode cX3_keep 32 = .ok (.iconst 5, 1) := by decide +kernel
theorem dX3_keep_33 : decode cX3_keep 33 = .ok (.invokestatic 29, 3) := by decide +kernel
theorem dX3_keep_36 : decode cX3_keep 36 = .ok (.putfield 22, 3) := by decide +kernel
theorem dX3_keep_39 : decode cX3_keep 39 = .ok (.return_, 1) := by decide +kernel
theorem dX3_bringBack_0 : decode cX3_bringBack 0 = .ok (.aload_n 0, 1) := by decide +kernel
theorem dX3_bringBack_1 : decode cX3_bringBack 1 = .ok (.getfield 22, 3) := by decide +kernel
theorem dX3_bringBack_4 : decode cX3_bringBack 4 = .ok (.ifCond .le 40, 3) := by decide +kernel
theorem dX3_bringBack_7 : decode cX3_bringBack 7 = .ok (.aload_n 0, 1) := by decide +kernel
theorem dX3_bringBack_8 : decode cX3_bringBack 8 = .ok (.aload_n 0, 1) := by decide +kernel
theorem dX3_bringBack_9 : decode cX3_bringBack 9 = .ok (.getfield 18, 3) := by decide +kernel
theorem dX3_bringBack_12 : decode cX3_bringBack 12 = .ok (.iconst 5, 1) := by decide +kernel
theorem dX3_bringBack_13 : decode cX3_bringBack 13 = .ok (.iadd, 1) := by decide +kernel
theorem dX3_bringBack_14 : decode cX3_bringBack 14 = .ok (.iconst 1, 1) := by decide +kernel
theorem dX3_bringBack_15 : decode cX3_bringBack 15 = .ok (.isub, 1) := by decide +kernel
theorem dX3_bringBack_16 : decode cX3_bringBack 16 = .ok (.iconst 5, 1) := by decide +kernel
theorem dX3_bringBack_17 : decode cX3_bringBack 17 = .ok (.irem, 1) := by decide +kernel
theorem dX3_bringBack_18 : decode cX3_bringBack 18 = .ok (.putfield 18, 3) := by decide +kernel
theorem dX3_bringBack_21 : decode cX3_bringBack 21 = .ok (.aload_n 0, 1) := by decide +kernel
theorem dX3_bringBack_22 : decode cX3_bringBack 22 = .ok (.dup, 1) := by decide +kernel
theorem dX3_bringBack_23 : decode cX3_bringBack 23 = .ok (.getfield 22, 3) := by decide +kernel
theorem dX3_bringBack_26 : decode cX3_bringBack 26 = .ok (.iconst 1, 1) := by decide +kernel
theorem dX3_bringBack_27 : decode cX3_bringBack 27 = .ok (.isub, 1) := by decide +kernel
theorem dX3_bringBack_28 : decode cX3_bringBack 28 = .ok (.putfield 22, 3) := by decide +kernel
theorem dX3_bringBack_31 : decode cX3_bringBack 31 = .ok (.aload_n 1, 1) := by decide +kernel
theorem dX3_bringBack_32 : decode cX3_bringBack 32 = .ok (.aload_n 0, 1) := by decide +kernel
theorem dX3_bringBack_33 : decode cX3_bringBack 33 = .ok (.getfield 11, 3) := by decide +kernel
theorem dX3_bringBack_36 : decode cX3_bringBack 36 = .ok (.aload_n 0, 1) := by decide +kernel
theorem dX3_bringBack_37 : decode cX3_bringBack 37 = .ok (.getfield 18, 3) := by decide +kernel
theorem dX3_bringBack_40 : decode cX3_bringBack 40 = .ok (.aaload, 1) := by decide +kernel
theorem dX3_bringBack_41 : decode cX3_bringBack 41 = .ok (.invokevirtual 25, 3) := by decide +kernel
theorem dX3_bringBack_44 : decode cX3_bringBack 44 = .ok (.return_, 1) := by decide +kernel
theorem dX4_init_0 : decode cX4_init 0 = .ok (.aload_n 0, 1) := by decide +kernel
theorem dX4_init_1 : decode cX4_init 1 = .ok (.invokespecial 3, 3) := by decide +kernel
theorem dX4_init_4 : decode cX4_init 4 = .ok (.aload_n 0, 1) := by decide +kernel
theorem dX4_init_5 : decode cX4_init 5 = .ok (.bipush 6, 2) := by decide +kernel
theorem dX4_init_7 : decode cX4_init 7 = .ok (.anewarray 9, 3) := by decide +kernel
theorem dX4_init_10 : decode cX4_init 10 = .ok (.putfield 11, 3) := by decide +kernel
theorem dX4_init_13 : decode cX4_init 13 = .ok (.aload_n 0, 1) := by decide +kernel
theorem dX4_init_14 : decode cX4_init 14 = .ok (.bipush 6, 2) := by decide +kernel
theorem dX4_init_16 : decode cX4_init 16 = .ok (.anewarray 17, 3) := by decide +kernel
theorem dX4_init_19 : decode cX4_init 19 = .ok (.putfield 19, 3) := by decide +kernel
theorem dX4_init_22 : decode cX4_init 22 = .ok (.iconst 0, 1) := by decide +kernel
theorem dX4_init_23 : decode cX4_init 23 = .ok (.istore_n 1, 1) := by decide +kernel
theorem dX4_init_24 : decode cX4_init 24 = .ok (.iload_n 1, 1) := by decide +kernel
theorem dX4_init_25 : decode cX4_init 25 = .ok (.bipush 6, 2) := by decide +kernel
theorem dX4_init_27 : decode cX4_init 27 = .ok (.if_icmp .ge 48, 3) := by decide +kernel
theorem dX4_init_30 : decode cX4_init 30 = .ok (.aload_n 0, 1) := by decide +kernel
theorem dX4_init_31 : decode cX4_init 31 = .ok (.getfield 11, 3) := by decide +kernel
theorem dX4_init_34 : decode cX4_init 34 = .ok (.iload_n 1, 1) := by decide +kernel
theorem dX4_init_35 : decode cX4_init 35 = .ok (.new 9, 3) := by decide +kernel
theorem dX4_init_38 : decode cX4_init 38 = .ok (.dup, 1) := by decide +kernel
theorem dX4_init_39 : decode cX4_init 39 = .ok (.invokespecial 23, 3) := by decide +kernel
theorem dX4_init_42 : decode cX4_init 42 = .ok (.aastore, 1) := by decide +kernel
theorem dX4_init_43 : decode cX4_init 43 = .ok (.aload_n 0, 1) := by decide +kernel
theorem dX4_init_44 : decode cX4_init 44 = .ok (.getfield 11, 3) := by decide +kernel
theorem dX4_init_47 : decode cX4_init 47 = .ok (.iload_n 1, 1) := by decide +kernel
theorem dX4_init_48 : decode cX4_init 48 = .ok (.aaload, 1) := by decide +kernel
theorem dX4_init_49 : decode cX4_init 49 = .ok (.iconst 0, 1) := by decide +kernel
theorem dX4_init_50 : decode cX4_init 50 = .ok (.iconst 4, 1) := by decide +kernel
theorem dX4_init_51 : decode cX4_init 51 = .ok (.bipush 10, 2) := by decide +kernel
theorem dX4_init_53 : decode cX4_init 53 = .ok (.invokevirtual 24, 3) := by decide +kernel
theorem dX4_init_56 : decode cX4_init 56 = .ok (.aload_n 0, 1) := by decide +kernel
theorem dX4_init_57 : decode cX4_init 57 = .ok (.getfield 19, 3) := by decide +kernel
theorem dX4_init_60 : decode cX4_init 60 = .ok (.iload_n 1, 1) := by decide +kernel
theorem dX4_init_61 : decode cX4_init 61 = .ok (.new 17, 3) := by decide +kernel
theorem dX4_init_64 : decode cX4_init 64 = .ok (.dup, 1) := by decide +kernel
theorem dX4_init_65 : decode cX4_init 65 = .ok (.invokespecial 28, 3) := by decide +kernel
theorem dX4_init_68 : decode cX4_init 68 = .ok (.aastore, 1) := by decide +kernel
theorem dX4_init_69 : decode cX4_init 69 = .ok (.iinc 1 1, 3) := by decide +kernel
theorem dX4_init_72 : decode cX4_init 72 = .ok (.goto (-48), 3) := by decide +kernel
theorem dX4_init_75 : decode cX4_init 75 = .ok (.aload_n 0, 1) := by decide +kernel
theorem dX4_init_76 : decode cX4_init 76 = .ok (.bipush 10, 2) := by decide +kernel
theorem dX4_init_78 : decode cX4_init 78 = .ok (.putfield 29, 3) := by decide +kernel
theorem dX4_init_81 : decode cX4_init 81 = .ok (.aload_n 0, 1) := by decide +kernel
theorem dX4_init_82 : decode cX4_init 82 = .ok (.bipush 30, 2) := by decide +kernel
theorem dX4_init_84 : decode cX4_init 84 = .ok (.putfield 33, 3) := by decide +kernel
theorem dX4_init_87 : decode cX4_init 87 = .ok (.aload_n 0, 1) := by decide +kernel
theorem dX4_init_88 : decode cX4_init 88 = .ok (.bipush 30, 2) := by decide +kernel
theorem dX4_init_90 : decode cX4_init 90 = .ok (.putfield 36, 3) := by decide +kernel
theorem dX4_init_93 : decode cX4_init 93 = .ok (.aload_n 0, 1) := by decide +kernel
theorem dX4_init_94 : decode cX4_init 94 = .ok (.bipush 30, 2) := by decide +kernel
theorem dX4_init_96 : decode cX4_init 96 = .ok (.putfield 39, 3) := by decide +kernel
theorem dX4_init_99 : decode cX4_init 99 = .ok (.aload_n 0, 1) := by decide +kernel
theorem dX4_init_100 : decode cX4_init 100 = .ok (.bipush 10, 2) := by decide +kernel
theorem dX4_init_102 : decode cX4_init 102 = .ok (.putfield 42, 3) := by decide +kernel
theorem dX4_init_105 : decode cX4_init 105 = .ok (.aload_n 0, 1) := by decide +kernel
theorem dX4_init_106 : decode cX4_init 106 = .ok (.bipush 50, 2) := by decide +kernel
theorem dX4_init_108 : decode cX4_init 108 = .ok (.putfield 45, 3) := by decide +kernel
theorem dX4_init_111 : decode cX4_init 111 = .ok (.return_, 1) := by decide +kernel
theorem dX4_copyFrom_0 : decode cX4_copyFrom 0 = .ok (.iconst 0, 1) := by decide +kernel
theorem dX4_copyFrom_1 : decode cX4_copyFrom 1 = .ok (.istore_n 2, 1) := by decide +kernel
theorem dX4_copyFrom_2 : decode cX4_copyFrom 2 = .ok (.iload_n 2, 1) := by decide +kernel
theorem dX4_copyFrom_3 : decode cX4_copyFrom 3 = .ok (.bipush 6, 2) := by decide +kernel
theorem dX4_copyFrom_5 : decode cX4_copyFrom 5 = .ok (.if_icmp .ge 39, 3) := by decide +kernel
theorem dX4_copyFrom_8 : decode cX4_copyFrom 8 = .ok (.aload_n 0, 1) := by decide +kernel
theorem dX4_copyFrom_9 : decode cX4_copyFrom 9 = .ok (.getfield 11, 3) := by decide +kernel
theorem dX4_copyFrom_12 : decode cX4_copyFrom 12 = .ok (.iload_n 2, 1) := by decide +kernel
theorem dX4_copyFrom_13 : decode cX4_copyFrom 13 = .ok (.aaload, 1) := by decide +kernel
theorem dX4_copyFrom_14 : decode cX4_copyFrom 14 = .ok (.aload_n 1, 1) := by decide +kernel
theorem dX4_copyFrom_15 : decode cX4_copyFrom 15 = .ok (.getfield 11, 3) := by decide +kernel
theorem dX4_copyFrom_18 : decode cX4_copyFrom 18 = .ok (.iload_n 2, 1) := by decide +kernel
theorem dX4_copyFrom_19 : decode cX4_copyFrom 19 = .ok (.aaload, 1) := by decide +kernel
theorem dX4_copyFrom_20 : decode cX4_copyFrom 20 = .ok (.invokevirtual 48, 3) := by decide +kernel
theorem dX4_copyFrom_23 : decode cX4_copyFrom 23 = .ok (.aload_n 0, 1) := by decide +kernel
theorem dX4_copyFrom_24 : decode cX4_copyFrom 24 = .ok (.getfield 19, 3) := by decide +kernel
theorem dX4_copyFrom_27 : decode cX4_copyFrom 27 = .ok (.iload_n 2, 1) := by decide +kernel
theorem dX4_copyFrom_28 : decode cX4_copyFrom 28 = .ok (.aaload, 1) := by decide +kernel
theorem dX4_copyFrom_29 : decode cX4_copyFrom 29 = .ok (.aload_n 1, 1) := by decide +kernel
theorem dX4_copyFrom_30 : decode cX4_copyFrom 30 = .ok (.getfield 19, 3) := by decide +kernel
theorem dX4_copyFrom_33 : decode cX4_copyFrom 33 = .ok (.iload_n 2, 1) := by decide +kernel
theorem dX4_copyFrom_34 : decode cX4_copyFrom 34 = .ok (.aaload, 1) := by decide +kernel
theorem dX4_copyFrom_35 : decode cX4_copyFrom 35 = .ok (.invokevirtual 52, 3) := by decide +kernel
theorem dX4_copyFrom_38 : decode cX4_copyFrom 38 = .ok (.iinc 2 1, 3) := by decide +kernel
theorem dX4_copyFrom_41 : decode cX4_copyFrom 41 = .ok (.goto (-39), 3) := by decide +kernel
theorem dX4_copyFrom_44 : decode cX4_copyFrom 44 = .ok (.aload_n 0, 1) := by decide +kernel
theorem dX4_copyFrom_45 : decode cX4_copyFrom 45 = .ok (.aload_n 1, 1) := by decide +kernel
theorem dX4_copyFrom_46 : decode cX4_copyFrom 46 = .ok (.getfield 55, 3) := by decide +kernel
theorem dX4_copyFrom_49 : decode cX4_copyFrom 49 = .ok (.putfield 55, 3) := by decide +kernel
theorem dX4_copyFrom_52 : decode cX4_copyFrom 52 = .ok (.aload_n 0, 1) := by decide +kernel
theorem dX4_copyFrom_53 : decode cX4_copyFrom 53 = .ok (.aload_n 1, 1) := by decide +kernel
theorem dX4_copyFrom_54 : decode cX4_copyFrom 54 = .ok (.getfield 29, 3) := by decide +kernel
theorem dX4_copyFrom_57 : decode cX4_copyFrom 57 = .ok (.putfield 29, 3) := by decide +kernel
theorem dX4_copyFrom_60 : decode cX4_copyFrom 60 = .ok (.aload_n 0, 1) := by decide +kernel
theorem dX4_copyFrom_61 : decode cX4_copyFrom 61 = .ok (.aload_n 1, 1) := by decide +kernel
theorem dX4_copyFrom_62 : decode cX4_copyFrom 62 = .ok (.getfield 33, 3) := by decide +kernel
theorem dX4_copyFrom_65 : decode cX4_copyFrom 65 = .ok (.putfield 33, 3) := by decide +kernel
theorem dX4_copyFrom_68 : decode cX4_copyFrom 68 = .ok (.aload_n 0, 1) := by decide +kernel
theorem dX4_copyFrom_69 : decode cX4_copyFrom 69 = .ok (.aload_n 1, 1) := by decide +kernel
theorem dX4_copyFrom_70 : decode cX4_copyFrom 70 = .ok (.getfield 36, 3) := by decide +kernel
theorem dX4_copyFrom_73 : decode cX4_copyFrom 73 = .ok (.putfield 36, 3) := by decide +kernel
theorem dX4_copyFrom_76 : decode cX4_copyFrom 76 = .ok (.aload_n 0, 1) := by decide +kernel
theorem dX4_copyFrom_77 : decode cX4_copyFrom 77 = .ok (.aload_n 1, 1) := by decide +kernel
theorem dX4_copyFrom_78 : decode cX4_copyFrom 78 = .ok (.getfield 39, 3) := by decide +kernel
theorem dX4_copyFrom_81 : decode cX4_copyFrom 81 = .ok (.putfield 39, 3) := by decide +kernel
theorem dX4_copyFrom_84 : decode cX4_copyFrom 84 = .ok (.aload_n 0, 1) := by decide +kernel
theorem dX4_copyFrom_85 : decode cX4_copyFrom 85 = .ok (.aload_n 1, 1) := by decide +kernel
theorem dX4_copyFrom_86 : decode cX4_copyFrom 86 = .ok (.getfield 42, 3) := by decide +kernel
theorem dX4_copyFrom_89 : decode cX4_copyFrom 89 = .ok (.putfield 42, 3) := by decide +kernel
theorem dX4_copyFrom_92 : decode cX4_copyFrom 92 = .ok (.aload_n 0, 1) := by decide +kernel
theorem dX4_copyFrom_93 : decode cX4_copyFrom 93 = .ok (.aload_n 1, 1) := by decide +kernel
theorem dX4_copyFrom_94 : decode cX4_copyFrom 94 = .ok (.getfield 45, 3) := by decide +kernel
theorem dX4_copyFrom_97 : decode cX4_copyFrom 97 = .ok (.putfield 45, 3) := by decide +kernel
theorem dX4_copyFrom_100 : decode cX4_copyFrom 100 = .ok (.aload_n 0, 1) := by decide +kernel
theorem dX4_copyFrom_101 : decode cX4_copyFrom 101 = .ok (.aload_n 1, 1) := by decide +kernel
theorem dX4_copyFrom_102 : decode cX4_copyFrom 102 = .ok (.getfield 58, 3) := by decide +kernel
theorem dX4_copyFrom_105 : decode cX4_copyFrom 105 = .ok (.putfield 58, 3) := by decide +kernel
theorem dX4_copyFrom_108 : decode cX4_copyFrom 108 = .ok (.aload_n 0, 1) := by decide +kernel
theorem dX4_copyFrom_109 : decode cX4_copyFrom 109 = .ok (.aload_n 1, 1) := by decide +kernel
theorem dX4_copyFrom_110 : decode cX4_copyFrom 110 = .ok (.getfield 61, 3) := by decide +kernel
theorem dX4_copyFrom_113 : decode cX4_copyFrom 113 = .ok (.putfield 61, 3) := by decide +kernel
theorem dX4_copyFrom_116 : decode cX4_copyFrom 116 = .ok (.aload_n 0, 1) := by decide +kernel
theorem dX4_copyFrom_117 : decode cX4_copyFrom 117 = .ok (.aload_n 1, 1) := by decide +kernel
theorem dX4_copyFrom_118 : decode cX4_copyFrom 118 = .ok (.getfield 64, 3) := by decide +kernel
theorem dX4_copyFrom_121 : decode cX4_copyFrom 121 = .ok (.putfield 64, 3) := by decide +kernel
theorem dX4_copyFrom_124 : decode cX4_copyFrom 124 = .ok (.aload_n 0, 1) := by decide +kernel
theorem dX4_copyFrom_125 : decode cX4_copyFrom 125 = .ok (.aload_n 1, 1) := by decide +kernel
theorem dX4_copyFrom_126 : decode cX4_copyFrom 126 = .ok (.getfield 67, 3) := by decide +kernel
theorem dX4_copyFrom_129 : decode cX4_copyFrom 129 = .ok (.putfield 67, 3) := by decide +kernel
theorem dX4_copyFrom_132 : decode cX4_copyFrom 132 = .ok (.aload_n 0, 1) := by decide +kernel
theorem dX4_copyFrom_133 : decode cX4_copyFrom 133 = .ok (.aload_n 1, 1) := by decide +kernel
theorem dX4_copyFrom_134 : decode cX4_copyFrom 134 = .ok (.getfield 70, 3) := by decide +kernel
theorem dX4_copyFrom_137 : decode cX4_copyFrom 137 = .ok (.putfield 70, 3) := by decide +kernel
theorem dX4_copyFrom_140 : decode cX4_copyFrom 140 = .ok (.return_, 1) := by decide +kernel
theorem dX4_isClosed_0 : decode cX4_isClosed 0 = .ok (.iload_n 1, 1) := by decide +kernel
theorem dX4_isClosed_1 : decode cX4_isClosed 1 = .ok (.bipush 52, 2) := by decide +kernel
theorem dX4_isClosed_3 : decode cX4_isClosed 3 = .ok (.irem, 1) := by decide +kernel
theorem dX4_isClosed_4 : decode cX4_isClosed 4 = .ok (.istore_n 2, 1) := by decide +kernel
theorem dX4_isClosed_5 : decode cX4_isClosed 5 = .ok (.aload_n 0, 1) := by decide +kernel
theorem dX4_isClosed_6 : decode cX4_isClosed 6 = .ok (.getfield 29, 3) := by decide +kernel
theorem dX4_isClosed_9 : decode cX4_isClosed 9 = .ok (.aload_n 0, 1) := by decide +kernel
theorem dX4_isClosed_10 : decode cX4_isClosed 10 = .ok (.getfield 33, 3) := by decide +kernel
theorem dX4_isClosed_13 : decode cX4_isClosed 13 = .ok (.if_icmp .le 25, 3) := by decide +kernel
theorem dX4_isClosed_16 : decode cX4_isClosed 16 = .ok (.iload_n 2, 1) := by decide +kernel
theorem dX4_isClosed_17 : decode cX4_isClosed 17 = .ok (.aload_n 0, 1) := by decide +kernel
theorem dX4_isClosed_18 : decode cX4_isClosed 18 = .ok (.getfield 29, 3) := by decide +kernel
theorem dX4_isClosed_21 : decode cX4_isClosed 21 = .ok (.if_icmp .ge 11, 3) := by decide +kernel
theorem dX4_isClosed_24 : decode cX4_isClosed 24 = .ok (.iload_n 2, 1) := by decide +kernel
theorem dX4_isClosed_25 : decode cX4_isClosed 25 = .ok (.aload_n 0, 1) := by decide +kernel
theorem dX4_isClosed_26 : decode cX4_isClosed 26 = .ok (.getfield 33, 3) := by decide +kernel
theorem dX4_isClosed_29 : decode cX4_isClosed 29 = .ok (.if_icmp .gt 7, 3) := by decide +kernel
theorem dX4_isClosed_32 : decode cX4_isClosed 32 = .ok (.iconst 1, 1) := by decide +kernel
theorem dX4_isClosed_33 : decode cX4_isClosed 33 = .ok (.goto 4, 3) := by decide +kernel
theorem dX4_isClosed_36 : decode cX4_isClosed 36 = .ok (.iconst 0, 1) := by decide +kernel
theorem dX4_isClosed_37 : decode cX4_isClosed 37 = .ok (.ireturn, 1) := by decide +kernel
theorem dX4_isClosed_38 : decode cX4_isClosed 38 = .ok (.iload_n 2, 1) := by decide +kernel
theorem dX4_isClosed_39 : decode cX4_isClosed 39 = .ok (.aload_n 0, 1) := by decide +kernel
theorem dX4_isClosed_40 : decode cX4_isClosed 40 = .ok (.getfield 29, 3) := by decide +kernel
theorem dX4_isClosed_43 : decode cX4_isClosed 43 = .ok (.if_icmp .lt 15, 3) := by decide +kernel
theorem dX4_isClosed_46 : decode cX4_isClosed 46 = .ok (.iload_n 2, 1) := by decide +kernel
theorem dX4_isClosed_47 : decode cX4_isClosed 47 = .ok (.aload_n 0, 1) := by decide +kernel
theorem dX4_isClosed_48 : decode cX4_isClosed 48 = .ok (.getfield 33, 3) := by decide +kernel
theorem dX4_isClosed_51 : decode cX4_isClosed 51 = .ok (.if_icmp .gt 7, 3) := by decide +kernel
theorem dX4_isClosed_54 : decode cX4_isClosed 54 = .ok (.iconst 1, 1) := by decide +kernel
theorem dX4_isClosed_55 : decode cX4_isClosed 55 = .ok (.goto 4, 3) := by decide +kernel
theorem dX4_isClosed_58 : decode cX4_isClosed 58 = .ok (.iconst 0, 1) := by decide +kernel
theorem dX4_isClosed_59 : decode cX4_isClosed 59 = .ok (.ireturn, 1) := by decide +kernel
theorem dX4_canLay_0 : decode cX4_canLay 0 = .ok (.aload_n 0, 1) := by decide +kernel
theorem dX4_canLay_1 : decode cX4_canLay 1 = .ok (.getfield 11, 3) := by decide +kernel
theorem dX4_canLay_4 : decode cX4_canLay 4 = .ok (.iload_n 1, 1) := by decide +kernel
theorem dX4_canLay_5 : decode cX4_canLay 5 = .ok (.aaload, 1) := by decide +kernel
theorem dX4_canLay_6 : decode cX4_canLay 6 = .ok (.astore_n 3, 1) := by decide +kernel
theorem dX4_canLay_7 : decode cX4_canLay 7 = .ok (.aload_n 3, 1) := by decide +kernel
theorem dX4_canLay_8 : decode cX4_canLay 8 = .ok (.iload_n 2, 1) := by decide +kernel
theorem dX4_canLay_9 : decode cX4_canLay 9 = .ok (.invokevirtual 73, 3) := by decide +kernel
theorem dX4_canLay_12 : decode cX4_canLay 12 = .ok (.ifCond .eq 27, 3) := by decide +kernel
theorem dX4_canLay_15 : decode cX4_canLay 15 = .ok (.aload_n 0, 1) := by decide +kernel
theorem dX4_canLay_16 : decode cX4_canLay 16 = .ok (.getfield 39, 3) := by decide +kernel
theorem dX4_canLay_19 : decode cX4_canLay 19 = .ok (.aload_n 3, 1) := by decide +kernel
theorem dX4_canLay_20 : decode cX4_canLay 20 = .ok (.iload_n 2, 1) := by decide +kernel
theorem dX4_canLay_21 : decode cX4_canLay 21 = .ok (.invokevirtual 77, 3) := by decide +kernel
theorem dX4_canLay_24 : decode cX4_canLay 24 = .ok (.if_icmp .lt 15, 3) := by decide +kernel
theorem dX4_canLay_27 : decode cX4_canLay 27 = .ok (.aload_n 0, 1) := by decide +kernel
theorem dX4_canLay_28 : decode cX4_canLay 28 = .ok (.getfield 42, 3) := by decide +kernel
theorem dX4_canLay_31 : decode cX4_canLay 31 = .ok (.iconst 2, 1) := by decide +kernel
theorem dX4_canLay_32 : decode cX4_canLay 32 = .ok (.if_icmp .lt 7, 3) := by decide +kernel
theorem dX4_canLay_35 : decode cX4_canLay 35 = .ok (.iconst 1, 1) := by decide +kernel
theorem dX4_canLay_36 : decode cX4_canLay 36 = .ok (.goto 4, 3) := by decide +kernel
theorem dX4_canLay_39 : decode cX4_canLay 39 = .ok (.iconst 0, 1) := by decide +kernel
theorem dX4_canLay_40 : decode cX4_canLay 40 = .ok (.ireturn, 1) := by decide +kernel
theorem dX4_layChain_0 : decode cX4_layChain 0 = .ok (.aload_n 0, 1) := by decide +kernel
theorem dX4_layChain_1 : decode cX4_layChain 1 = .ok (.getfield 11, 3) := by decide +kernel
theorem dX4_layChain_4 : decode cX4_layChain 4 = .ok (.iload_n 1, 1) := by decide +kernel
theorem dX4_layChain_5 : decode cX4_layChain 5 = .ok (.aaload, 1) := by decide +kernel
theorem dX4_layChain_6 : decode cX4_layChain 6 = .ok (.astore_n 3, 1) := by decide +kernel
theorem dX4_layChain_7 : decode cX4_layChain 7 = .ok (.aload_n 3, 1) := by decide +kernel
theorem dX4_layChain_8 : decode cX4_layChain 8 = .ok (.iload_n 2, 1) := by decide +kernel
theorem dX4_layChain_9 : decode cX4_layChain 9 = .ok (.invokevirtual 77, 3) := by decide +kernel
theorem dX4_layChain_12 : decode cX4_layChain 12 = .ok (.istore 4, 2) := by decide +kernel
theorem dX4_layChain_14 : decode cX4_layChain 14 = .ok (.aload_n 0, 1) := by decide +kernel
theorem dX4_layChain_15 : decode cX4_layChain 15 = .ok (.dup, 1) := by decide +kernel
theorem dX4_layChain_16 : decode cX4_layChain 16 = .ok (.getfield 39, 3) := by decide +kernel
theorem dX4_layChain_19 : decode cX4_layChain 19 = .ok (.iload 4, 2) := by decide +kernel
theorem dX4_layChain_21 : decode cX4_layChain 21 = .ok (.isub, 1) := by decide +kernel
theorem dX4_layChain_22 : decode cX4_layChain 22 = .ok (.putfield 39, 3) := by decide +kernel
theorem dX4_layChain_25 : decode cX4_layChain 25 = .ok (.aload_n 0, 1) := by decide +kernel
theorem dX4_layChain_26 : decode cX4_layChain 26 = .ok (.dup, 1) := by decide +kernel
theorem dX4_layChain_27 : decode cX4_layChain 27 = .ok (.getfield 42, 3) := by decide +kernel
theorem dX4_layChain_30 : decode cX4_layChain 30 = .ok (.iconst 2, 1) := by decide +kernel
theorem dX4_layChain_31 : decode cX4_layChain 31 = .ok (.isub, 1) := by decide +kernel
theorem dX4_layChain_32 : decode cX4_layChain 32 = .ok (.putfield 42, 3) := by decide +kernel
theorem dX4_layChain_35 : decode cX4_layChain 35 = .ok (.aload_n 3, 1) := by decide +kernel
theorem dX4_layChain_36 : decode cX4_layChain 36 = .ok (.iload_n 2, 1) := by decide +kernel
theorem dX4_layChain_37 : decode cX4_layChain 37 = .ok (.iconst 1, 1) := by decide +kernel
theorem dX4_layChain_38 : decode cX4_layChain 38 = .ok (.iload 4, 2) := by decide +kernel
theorem dX4_layChain_40 : decode cX4_layChain 40 = .ok (.invokevirtual 81, 3) := by decide +kernel
theorem dX4_layChain_43 : decode cX4_layChain 43 = .ok (.aload_n 0, 1) := by decide +kernel
theorem dX4_layChain_44 : decode cX4_layChain 44 = .ok (.dup, 1) := by decide +kernel
theorem dX4_layChain_45 : decode cX4_layChain 45 = .ok (.getfield 67, 3) := by decide +kernel
theorem dX4_layChain_48 : decode cX4_layChain 48 = .ok (.iconst 1, 1) := by decide +kernel
theorem dX4_layChain_49 : decode cX4_layChain 49 = .ok (.iadd, 1) := by decide +kernel
theorem dX4_layChain_50 : decode cX4_layChain 50 = .ok (.putfield 67, 3) := by decide +kernel
theorem dX4_layChain_53 : decode cX4_layChain 53 = .ok (.aload_n 0, 1) := by decide +kernel
theorem dX4_layChain_54 : decode cX4_layChain 54 = .ok (.getfield 19, 3) := by decide +kernel
theorem dX4_layChain_57 : decode cX4_layChain 57 = .ok (.iload_n 1, 1) := by decide +kernel
theorem dX4_layChain_58 : decode cX4_layChain 58 = .ok (.aaload, 1) := by decide +kernel
theorem dX4_layChain_59 : decode cX4_layChain 59 = .ok (.getfield 84, 3) := by decide +kernel
theorem dX4_layChain_62 : decode cX4_layChain 62 = .ok (.ifCond .eq 39, 3) := by decide +kernel
theorem dX4_layChain_65 : decode cX4_layChain 65 = .ok (.aload_n 0, 1) := by decide +kernel
theorem dX4_layChain_66 : decode cX4_layChain 66 = .ok (.dup, 1) := by decide +kernel
theorem dX4_layChain_67 : decode cX4_layChain 67 = .ok (.getfield 45, 3) := by decide +kernel
theorem dX4_layChain_70 : decode cX4_layChain 70 = .ok (.aload_n 0, 1) := by decide +kernel
theorem dX4_layChain_71 : decode cX4_layChain 71 = .ok (.getfield 19, 3) := by decide +kernel
theorem dX4_layChain_74 : decode cX4_layChain 74 = .ok (.iload_n 1, 1) := by decide +kernel
theorem dX4_layChain_75 : decode cX4_layChain 75 = .ok (.aaload, 1) := by decide +kernel
theorem dX4_layChain_76 : decode cX4_layChain 76 = .ok (.getfield 88, 3) := by decide +kernel
theorem dX4_layChain_79 : decode cX4_layChain 79 = .ok (.iadd, 1) := by decide +kernel
theorem dX4_layChain_80 : decode cX4_layChain 80 = .ok (.putfield 45, 3) := by decide +kernel
theorem dX4_layChain_83 : decode cX4_layChain 83 = .ok (.aload_n 0, 1) := by decide +kernel
theorem dX4_layChain_84 : decode cX4_layChain 84 = .ok (.dup, 1) := by decide +kernel
theorem dX4_layChain_85 : decode cX4_layChain 85 = .ok (.getfield 61, 3) := by decide +kernel
theorem dX4_layChain_88 : decode cX4_layChain 88 = .ok (.aload_n 0, 1) := by decide +kernel
theorem dX4_layChain_89 : decode cX4_layChain 89 = .ok (.getfield 19, 3) := by decide +kernel
theorem dX4_layChain_92 : decode cX4_layChain 92 = .ok (.iload_n 1, 1) := by decide +kernel
theorem dX4_layChain_93 : decode cX4_layChain 93 = .ok (.aaload, 1) := by decide +kernel
theorem dX4_layChain_94 : decode cX4_layChain 94 = .ok (.getfield 88, 3) := by decide +kernel
theorem dX4_layChain_97 : decode cX4_layChain 97 = .ok (.iadd, 1) := by decide +kernel
theorem dX4_layChain_98 : decode cX4_layChain 98 = .ok (.putfield 61, 3) := by decide +kernel
theorem dX4_layChain_101 : decode cX4_layChain 101 = .ok (.aload_n 0, 1) := by decide +kernel
theorem dX4_layChain_102 : decode cX4_layChain 102 = .ok (.iload_n 1, 1) := by decide +kernel
theorem dX4_layChain_103 : decode cX4_layChain 103 = .ok (.invokevirtual 91, 3) := by decide +kernel
theorem dX4_layChain_106 : decode cX4_layChain 106 = .ok (.return_, 1) := by decide +kernel
theorem dX4_canCut_0 : decode cX4_canCut 0 = .ok (.aload_n 0, 1) := by decide +kernel
theorem dX4_canCut_1 : decode cX4_canCut 1 = .ok (.getfield 11, 3) := by decide +kernel
theorem dX4_canCut_4 : decode cX4_canCut 4 = .ok (.iload_n 1, 1) := by decide +kernel
theorem dX4_canCut_5 : decode cX4_canCut 5 = .ok (.aaload, 1) := by decide +kernel
theorem dX4_canCut_6 : decode cX4_canCut 6 = .ok (.iload_n 2, 1) := by decide +kernel
theorem dX4_canCut_7 : decode cX4_canCut 7 = .ok (.invokevirtual 95, 3) := by decide +kernel
theorem dX4_canCut_10 : decode cX4_canCut 10 = .ok (.ifCond .eq 15, 3) := by decide +kernel
theorem dX4_canCut_13 : decode cX4_canCut 13 = .ok (.aload_n 0, 1) := by decide +kernel
theorem dX4_canCut_14 : decode cX4_canCut 14 = .ok (.getfield 39, 3) := by decide +kernel
theorem dX4_canCut_17 : decode cX4_canCut 17 = .ok (.iconst 1, 1) := by decide +kernel
theorem dX4_canCut_18 : decode cX4_canCut 18 = .ok (.if_icmp .lt 7, 3) := by decide +kernel
theorem dX4_canCut_21 : decode cX4_canCut 21 = .ok (.iconst 1, 1) := by decide +kernel
theorem dX4_canCut_22 : decode cX4_canCut 22 = .ok (.goto 4, 3) := by decide +kernel
theorem dX4_canCut_25 : decode cX4_canCut 25 = .ok (.iconst 0, 1) := by decide +kernel
theorem dX4_canCut_26 : decode cX4_canCut 26 = .ok (.ireturn, 1) := by decide +kernel
theorem dX4_cutChain_0 : decode cX4_cutChain 0 = .ok (.aload_n 0, 1) := by decide +kernel
theorem dX4_cutChain_1 : decode cX4_cutChain 1 = .ok (.getfield 11, 3) := by decide +kernel
theorem dX4_cutChain_4 : decode cX4_cutChain 4 = .ok (.iload_n 1, 1) := by decide +kernel
theorem dX4_cutChain_5 : decode cX4_cutChain 5 = .ok (.aaload, 1) := by decide +kernel
theorem dX4_cutChain_6 : decode cX4_cutChain 6 = .ok (.iload_n 2, 1) := by decide +kernel
theorem dX4_cutChain_7 : decode cX4_cutChain 7 = .ok (.invokevirtual 77, 3) := by decide +kernel
theorem dX4_cutChain_10 : decode cX4_cutChain 10 = .ok (.istore_n 3, 1) := by decide +kernel
theorem dX4_cutChain_11 : decode cX4_cutChain 11 = .ok (.aload_n 0, 1) := by decide +kernel
theorem dX4_cutChain_12 : decode cX4_cutChain 12 = .ok (.dup, 1) := by decide +kernel
theorem dX4_cutChain_13 : decode cX4_cutChain 13 = .ok (.getfield 39, 3) := by decide +kernel
theorem dX4_cutChain_16 : decode cX4_cutChain 16 = .ok (.iconst 1, 1) := by decide +kernel
theorem dX4_cutChain_17 : decode cX4_cutChain 17 = .ok (.isub, 1) := by decide +kernel
theorem dX4_cutChain_18 : decode cX4_cutChain 18 = .ok (.putfield 39, 3) := by decide +kernel
theorem dX4_cutChain_21 : decode cX4_cutChain 21 = .ok (.aload_n 0, 1) := by decide +kernel
theorem dX4_cutChain_22 : decode cX4_cutChain 22 = .ok (.dup, 1) := by decide +kernel
theorem dX4_cutChain_23 : decode cX4_cutChain 23 = .ok (.getfield 42, 3) := by decide +kernel
theorem dX4_cutChain_26 : decode cX4_cutChain 26 = .ok (.iload_n 3, 1) := by decide +kernel
theorem dX4_cutChain_27 : decode cX4_cutChain 27 = .ok (.iadd, 1) := by decide +kernel
theorem dX4_cutChain_28 : decode cX4_cutChain 28 = .ok (.putfield 42, 3) := by decide +kernel
theorem dX4_cutChain_31 : decode cX4_cutChain 31 = .ok (.aload_n 0, 1) := by decide +kernel
theorem dX4_cutChain_32 : decode cX4_cutChain 32 = .ok (.getfield 11, 3) := by decide +kernel
theorem dX4_cutChain_35 : decode cX4_cutChain 35 = .ok (.iload_n 1, 1) := by decide +kernel
theorem dX4_cutChain_36 : decode cX4_cutChain 36 = .ok (.aaload, 1) := by decide +kernel
theorem dX4_cutChain_37 : decode cX4_cutChain 37 = .ok (.iload_n 2, 1) := by decide +kernel
theorem dX4_cutChain_38 : decode cX4_cutChain 38 = .ok (.iconst 0, 1) := by decide +kernel
theorem dX4_cutChain_39 : decode cX4_cutChain 39 = .ok (.iload_n 3, 1) := by decide +kernel
theorem dX4_cutChain_40 : decode cX4_cutChain 40 = .ok (.iconst 2, 1) := by decide +kernel
theorem dX4_cutChain_41 : decode cX4_cutChain 41 = .ok (.isub, 1) := by decide +kernel
theorem dX4_cutChain_42 : decode cX4_cutChain 42 = .ok (.invokevirtual 81, 3) := by decide +kernel
theorem dX4_cutChain_45 : decode cX4_cutChain 45 = .ok (.return_, 1) := by decide +kernel
theorem dX4_canPlant_0 : decode cX4_canPlant 0 = .ok (.aload_n 0, 1) := by decide +kernel
theorem dX4_canPlant_1 : decode cX4_canPlant 1 = .ok (.getfield 11, 3) := by decide +kernel
theorem dX4_canPlant_4 : decode cX4_canPlant 4 = .ok (.iload_n 1, 1) := by decide +kernel
theorem dX4_canPlant_5 : decode cX4_canPlant 5 = .ok (.aaload, 1) := by decide +kernel
theorem dX4_canPlant_6 : decode cX4_canPlant 6 = .ok (.iload_n 2, 1) := by decide +kernel
theorem dX4_canPlant_7 : decode cX4_canPlant 7 = .ok (.invokevirtual 98, 3) := by decide +kernel
theorem dX4_canPlant_10 : decode cX4_canPlant 10 = .ok (.iconst 2, 1) := by decide +kernel
theorem dX4_canPlant_11 : decode cX4_canPlant 11 = .ok (.if_icmp .ne 23, 3) := by decide +kernel
theorem dX4_canPlant_14 : decode cX4_canPlant 14 = .ok (.aload_n 0, 1) := by decide +kernel
theorem dX4_canPlant_15 : decode cX4_canPlant 15 = .ok (.getfield 39, 3) := by decide +kernel
theorem dX4_canPlant_18 : decode cX4_canPlant 18 = .ok (.iconst 2, 1) := by decide +kernel
theorem dX4_canPlant_19 : decode cX4_canPlant 19 = .ok (.if_icmp .lt 15, 3) := by decide +kernel
theorem dX4_canPlant_22 : decode cX4_canPlant 22 = .ok (.aload_n 0, 1) := by decide +kernel
theorem dX4_canPlant_23 : decode cX4_canPlant 23 = .ok (.getfield 45, 3) := by decide +kernel
theorem dX4_canPlant_26 : decode cX4_canPlant 26 = .ok (.iconst 3, 1) := by decide +kernel
theorem dX4_canPlant_27 : decode cX4_canPlant 27 = .ok (.if_icmp .lt 7, 3) := by decide +kernel
theorem dX4_canPlant_30 : decode cX4_canPlant 30 = .ok (.iconst 1, 1) := by decide +kernel
theorem dX4_canPlant_31 : decode cX4_canPlant 31 = .ok (.goto 4, 3) := by decide +kernel
theorem dX4_canPlant_34 : decode cX4_canPlant 34 = .ok (.iconst 0, 1) := by decide +kernel
theorem dX4_canPlant_35 : decode cX4_canPlant 35 = .ok (.ireturn, 1) := by decide +kernel
theorem dX4_plantChain_0 : decode cX4_plantChain 0 = .ok (.aload_n 0, 1) := by decide +kernel
theorem dX4_plantChain_1 : decode cX4_plantChain 1 = .ok (.dup, 1) := by decide +kernel
theorem dX4_plantChain_2 : decode cX4_plantChain 2 = .ok (.getfield 39, 3) := by decide +kernel
theorem dX4_plantChain_5 : decode cX4_plantChain 5 = .ok (.iconst 2, 1) := by decide +kernel
theorem dX4_plantChain_6 : decode cX4_plantChain 6 = .ok (.isub, 1) := by decide +kernel
theorem dX4_plantChain_7 : decode cX4_plantChain 7 = .ok (.putfield 39, 3) := by decide +kernel
theorem dX4_plantChain_10 : decode cX4_plantChain 10 = .ok (.aload_n 0, 1) := by decide +kernel
theorem dX4_plantChain_11 : decode cX4_plantChain 11 = .ok (.dup, 1) := by decide +kernel
theorem dX4_plantChain_12 : decode cX4_plantChain 12 = .ok (.getfield 45, 3) := by decide +kernel
theorem dX4_plantChain_15 : decode cX4_plantChain 15 = .ok (.iconst 3, 1) := by decide +kernel
theorem dX4_plantChain_16 : decode cX4_plantChain 16 = .ok (.isub, 1) := by decide +kernel
theorem dX4_plantChain_17 : decode cX4_plantChain 17 = .ok (.putfield 45, 3) := by decide +kernel
theorem dX4_plantChain_20 : decode cX4_plantChain 20 = .ok (.aload_n 0, 1) := by decide +kernel
theorem dX4_plantChain_21 : decode cX4_plantChain 21 = .ok (.getfield 11, 3) := by decide +kernel
theorem dX4_plantChain_24 : decode cX4_plantChain 24 = .ok (.iload_n 1, 1) := by decide +kernel
theorem dX4_plantChain_25 : decode cX4_plantChain 25 = .ok (.aaload, 1) := by decide +kernel
theorem dX4_plantChain_26 : decode cX4_plantChain 26 = .ok (.iload_n 2, 1) := by decide +kernel
theorem dX4_plantChain_27 : decode cX4_plantChain 27 = .ok (.iconst 3, 1) := by decide +kernel
theorem dX4_plantChain_28 : decode cX4_plantChain 28 = .ok (.iconst 0, 1) := by decide +kernel
theorem dX4_plantChain_29 : decode cX4_plantChain 29 = .ok (.invokevirtual 81, 3) := by decide +kernel
theorem dX4_plantChain_32 : decode cX4_plantChain 32 = .ok (.aload_n 0, 1) := by decide +kernel
theorem dX4_plantChain_33 : decode cX4_plantChain 33 = .ok (.dup, 1) := by decide +kernel
theorem dX4_plantChain_34 : decode cX4_plantChain 34 = .ok (.getfield 70, 3) := by decide +kernel
theorem dX4_plantChain_37 : decode cX4_plantChain 37 = .ok (.iconst 1, 1) := by decide +kernel
theorem dX4_plantChain_38 : decode cX4_plantChain 38 = .ok (.iadd, 1) := by decide +kernel
theorem dX4_plantChain_39 : decode cX4_plantChain 39 = .ok (.putfield 70, 3) := by decide +kernel
theorem dX4_plantChain_42 : decode cX4_plantChain 42 = .ok (.return_, 1) := by decide +kernel
theorem dX4_grubChain_0 : decode cX4_grubChain 0 = .ok (.aload_n 0, 1) := by decide +kernel
theorem dX4_grubChain_1 : decode cX4_grubChain 1 = .ok (.getfield 11, 3) := by decide +kernel
theorem dX4_grubChain_4 : decode cX4_grubChain 4 = .ok (.iload_n 1, 1) := by decide +kernel
theorem dX4_grubChain_5 : decode cX4_grubChain 5 = .ok (.aaload, 1) := by decide +kernel
theorem dX4_grubChain_6 : decode cX4_grubChain 6 = .ok (.iload_n 2, 1) := by decide +kernel
theorem dX4_grubChain_7 : decode cX4_grubChain 7 = .ok (.iconst 2, 1) := by decide +kernel
theorem dX4_grubChain_8 : decode cX4_grubChain 8 = .ok (.iconst 0, 1) := by decide +kernel
theorem dX4_grubChain_9 : decode cX4_grubChain 9 = .ok (.invokevirtual 81, 3) := by decide +kernel
theorem dX4_grubChain_12 : decode cX4_grubChain 12 = .ok (.aload_n 0, 1) := by decide +kernel
theorem dX4_grubChain_13 : decode cX4_grubChain 13 = .ok (.iload_n 1, 1) := by decide +kernel
theorem dX4_grubChain_14 : decode cX4_grubChain 14 = .ok (.invokevirtual 91, 3) := by decide +kernel
theorem dX4_grubChain_17 : decode cX4_grubChain 17 = .ok (.return_, 1) := by decide +kernel
theorem dX4_replaceHedge_0 : decode cX4_replaceHedge 0 = .ok (.aload_n 0, 1) := by decide +kernel
theorem dX4_replaceHedge_1 : decode cX4_replaceHedge 1 = .ok (.getfield 11, 3) := by decide +kernel
theorem dX4_replaceHedge_4 : decode cX4_replaceHedge 4 = .ok (.iload_n 1, 1) := by decide +kernel
theorem dX4_replaceHedge_5 : decode cX4_replaceHedge 5 = .ok (.aaload, 1) := by decide +kernel
theorem dX4_replaceHedge_6 : decode cX4_replaceHedge 6 = .ok (.aload_n 2, 1) := by decide +kernel
theorem dX4_replaceHedge_7 : decode cX4_replaceHedge 7 = .ok (.invokevirtual 48, 3) := by decide +kernel
theorem dX4_replaceHedge_10 : decode cX4_replaceHedge 10 = .ok (.aload_n 0, 1) := by decide +kernel
theorem dX4_replaceHedge_11 : decode cX4_replaceHedge 11 = .ok (.iload_n 1, 1) := by decide +kernel
theorem dX4_replaceHedge_12 : decode cX4_replaceHedge 12 = .ok (.invokevirtual 91, 3) := by decide +kernel
theorem dX4_replaceHedge_15 : decode cX4_replaceHedge 15 = .ok (.return_, 1) := by decide +kernel
theorem dX4_endContractIfNoneStands_0 : decode cX4_endContractIfNoneStands 0 = .ok (.aload_n 0, 1) := by decide +kernel
theorem dX4_endContractIfNoneStands_1 : decode cX4_endContractIfNoneStands 1 = .ok (.getfield 11, 3) := by decide +kernel
theorem dX4_endContractIfNoneStands_4 : decode cX4_endContractIfNoneStands 4 = .ok (.iload_n 1, 1) := by decide +kernel
theorem dX4_endContractIfNoneStands_5 : decode cX4_endContractIfNoneStands 5 = .ok (.aaload, 1) := by decide +kernel
theorem dX4_endContractIfNoneStands_6 : decode cX4_endContractIfNoneStands 6 = .ok (.iconst 0, 1) := by decide +kernel
theorem dX4_endContractIfNoneStands_7 : decode cX4_endContractIfNoneStands 7 = .ok (.invokevirtual 101, 3) := by decide +kernel
theorem dX4_endContractIfNoneStands_10 : decode cX4_endContractIfNoneStands 10 = .ok (.ifCond .ne 13, 3) := by decide +kernel
theorem dX4_endContractIfNoneStands_13 : decode cX4_endContractIfNoneStands 13 = .ok (.aload_n 0, 1) := by decide +kernel
theorem dX4_endContractIfNoneStands_14 : decode cX4_endContractIfNoneStands 14 = .ok (.getfield 19, 3) := by decide +kernel
theorem dX4_endContractIfNoneStands_17 : decode cX4_endContractIfNoneStands 17 = .ok (.iload_n 1, 1) := by decide +kernel
theorem dX4_endContractIfNoneStands_18 : decode cX4_endContractIfNoneStands 18 = .ok (.aaload, 1) := by decide +kernel
theorem dX4_endContractIfNoneStands_19 : decode cX4_endContractIfNoneStands 19 = .ok (.iconst 0, 1) := by decide +kernel
theorem dX4_endContractIfNoneStands_20 : decode cX4_endContractIfNoneStands 20 = .ok (.putfield 84, 3) := by decide +kernel
theorem dX4_endContractIfNoneStands_23 : decode cX4_endContractIfNoneStands 23 = .ok (.return_, 1) := by decide +kernel
theorem dX4_numberOfContracts_0 : decode cX4_numberOfContracts 0 = .ok (.iconst 0, 1) := by decide +kernel
theorem dX4_numberOfContracts_1 : decode cX4_numberOfContracts 1 = .ok (.istore_n 1, 1) := by decide +kernel
theorem dX4_numberOfContracts_2 : decode cX4_numberOfContracts 2 = .ok (.iconst 0, 1) := by decide +kernel
theorem dX4_numberOfContracts_3 : decode cX4_numberOfContracts 3 = .ok (.istore_n 2, 1) := by decide +kernel
theorem dX4_numberOfContracts_4 : decode cX4_numberOfContracts 4 = .ok (.iload_n 2, 1) := by decide +kernel
theorem dX4_numberOfContracts_5 : decode cX4_numberOfContracts 5 = .ok (.bipush 6, 2) := by decide +kernel
theorem dX4_numberOfContracts_7 : decode cX4_numberOfContracts 7 = .ok (.if_icmp .ge 24, 3) := by decide +kernel
theorem dX4_numberOfContracts_10 : decode cX4_numberOfContracts 10 = .ok (.aload_n 0, 1) := by decide +kernel
theorem dX4_numberOfContracts_11 : decode cX4_numberOfContracts 11 = .ok (.getfield 19, 3) := by decide +kernel
theorem dX4_numberOfContracts_14 : decode cX4_numberOfContracts 14 = .ok (.iload_n 2, 1) := by decide +kernel
theorem dX4_numberOfContracts_15 : decode cX4_numberOfContracts 15 = .ok (.aaload, 1) := by decide +kernel
theorem dX4_numberOfContracts_16 : decode cX4_numberOfContracts 16 = .ok (.getfield 84, 3) := by decide +kernel
theorem dX4_numberOfContracts_19 : decode cX4_numberOfContracts 19 = .ok (.ifCond .eq 6, 3) := by decide +kernel
theorem dX4_numberOfContracts_22 : decode cX4_numberOfContracts 22 = .ok (.iinc 1 1, 3) := by decide +kernel
theorem dX4_numberOfContracts_25 : decode cX4_numberOfContracts 25 = .ok (.iinc 2 1, 3) := by decide +kernel
theorem dX4_numberOfContracts_28 : decode cX4_numberOfContracts 28 = .ok (.goto (-24), 3) := by decide +kernel
theorem dX4_numberOfContracts_31 : decode cX4_numberOfContracts 31 = .ok (.iload_n 1, 1) := by decide +kernel
theorem dX4_numberOfContracts_32 : decode cX4_numberOfContracts 32 = .ok (.ireturn, 1) := by decide +kernel
theorem dX4_passWeek_0 : decode cX4_passWeek 0 = .ok (.aload_n 0, 1) := by decide +kernel
theorem dX4_passWeek_1 : decode cX4_passWeek 1 = .ok (.dup, 1) := by decide +kernel
theorem dX4_passWeek_2 : decode cX4_passWeek 2 = .ok (.getfield 55, 3) := by decide +kernel
theorem dX4_passWeek_5 : decode cX4_passWeek 5 = .ok (.iconst 1, 1) := by decide +kernel
theorem dX4_passWeek_6 : decode cX4_passWeek 6 = .ok (.iadd, 1) := by decide +kernel
theorem dX4_passWeek_7 : decode cX4_passWeek 7 = .ok (.putfield 55, 3) := by decide +kernel
theorem dX4_passWeek_10 : decode cX4_passWeek 10 = .ok (.aload_n 0, 1) := by decide +kernel
theorem dX4_passWeek_11 : decode cX4_passWeek 11 = .ok (.aload_n 0, 1) := by decide +kernel
theorem dX4_passWeek_12 : decode cX4_passWeek 12 = .ok (.getfield 36, 3) := by decide +kernel
theorem dX4_passWeek_15 : decode cX4_passWeek 15 = .ok (.putfield 39, 3) := by decide +kernel
theorem dX4_passWeek_18 : decode cX4_passWeek 18 = .ok (.iconst 0, 1) := by decide +kernel
theorem dX4_passWeek_19 : decode cX4_passWeek 19 = .ok (.istore_n 1, 1) := by decide +kernel
theorem dX4_passWeek_20 : decode cX4_passWeek 20 = .ok (.iload_n 1, 1) := by decide +kernel
theorem dX4_passWeek_21 : decode cX4_passWeek 21 = .ok (.bipush 6, 2) := by decide +kernel
theorem dX4_passWeek_23 : decode cX4_passWeek 23 = .ok (.if_icmp .ge 22, 3) := by decide +kernel
theorem dX4_passWeek_26 : decode cX4_passWeek 26 = .ok (.aload_n 0, 1) := by decide +kernel
theorem dX4_passWeek_27 : decode cX4_passWeek 27 = .ok (.getfield 11, 3) := by decide +kernel
theorem dX4_passWeek_30 : decode cX4_passWeek 30 = .ok (.iload_n 1, 1) := by decide +kernel
theorem dX4_passWeek_31 : decode cX4_passWeek 31 = .ok (.aaload, 1) := by decide +kernel
theorem dX4_passWeek_32 : decode cX4_passWeek 32 = .ok (.aload_n 0, 1) := by decide +kernel
theorem dX4_passWeek_33 : decode cX4_passWeek 33 = .ok (.getfield 55, 3) := by decide +kernel
theorem dX4_passWeek_36 : decode cX4_passWeek 36 = .ok (.invokevirtual 104, 3) := by decide +kernel
theorem dX4_passWeek_39 : decode cX4_passWeek 39 = .ok (.iinc 1 1, 3) := by decide +kernel
theorem dX4_passWeek_42 : decode cX4_passWeek 42 = .ok (.goto (-22), 3) := by decide +kernel
theorem dX4_passWeek_45 : decode cX4_passWeek 45 = .ok (.aload_n 0, 1) := by decide +kernel
theorem dX4_passWeek_46 : decode cX4_passWeek 46 = .ok (.invokevirtual 107, 3) := by decide +kernel
theorem dX4_passWeek_49 : decode cX4_passWeek 49 = .ok (.istore_n 1, 1) := by decide +kernel
theorem dX4_passWeek_50 : decode cX4_passWeek 50 = .ok (.aload_n 0, 1) := by decide +kernel
theorem dX4_passWeek_51 : decode cX4_passWeek 51 = .ok (.dup, 1) := by decide +kernel
theorem dX4_passWeek_52 : decode cX4_passWeek 52 = .ok (.getfield 64, 3) := by decide +kernel
theorem dX4_passWeek_55 : decode cX4_passWeek 55 = .ok (.iload_n 1, 1) := by decide +kernel
theorem dX4_passWeek_56 : decode cX4_passWeek 56 = .ok (.iadd, 1) := by decide +kernel
theorem dX4_passWeek_57 : decode cX4_passWeek 57 = .ok (.putfield 64, 3) := by decide +kernel
theorem dX4_passWeek_60 : decode cX4_passWeek 60 = .ok (.aload_n 0, 1) := by decide +kernel
theorem dX4_passWeek_61 : decode cX4_passWeek 61 = .ok (.iload_n 1, 1) := by decide +kernel
theorem dX4_passWeek_62 : decode cX4_passWeek 62 = .ok (.invokevirtual 111, 3) := by decide +kernel
theorem dX4_passWeek_65 : decode cX4_passWeek 65 = .ok (.iload_n 1, 1) := by decide +kernel
theorem dX4_passWeek_66 : decode cX4_passWeek 66 = .ok (.ireturn, 1) := by decide +kernel
theorem dX4_finesDue_0 : decode cX4_finesDue 0 = .ok (.iconst 0, 1) := by decide +kernel
theorem dX4_finesDue_1 : decode cX4_finesDue 1 = .ok (.istore_n 1, 1) := by decide +kernel
theorem dX4_finesDue_2 : decode cX4_finesDue 2 = .ok (.iconst 0, 1) := by decide +kernel
theorem dX4_finesDue_3 : decode cX4_finesDue 3 = .ok (.istore_n 2, 1) := by decide +kernel
theorem dX4_finesDue_4 : decode cX4_finesDue 4 = .ok (.iload_n 2, 1) := by decide +kernel
theorem dX4_finesDue_5 : decode cX4_finesDue 5 = .ok (.bipush 6, 2) := by decide +kernel
theorem dX4_finesDue_7 : decode cX4_finesDue 7 = .ok (.if_icmp .ge 45, 3) := by decide +kernel
theorem dX4_finesDue_10 : decode cX4_finesDue 10 = .ok (.aload_n 0, 1) := by decide +kernel
theorem dX4_finesDue_11 : decode cX4_finesDue 11 = .ok (.getfield 19, 3) := by decide +kernel
theorem dX4_finesDue_14 : decode cX4_finesDue 14 = .ok (.iload_n 2, 1) := by decide +kernel
theorem dX4_finesDue_15 : decode cX4_finesDue 15 = .ok (.aaload, 1) := by decide +kernel
theorem dX4_finesDue_16 : decode cX4_finesDue 16 = .ok (.getfield 84, 3) := by decide +kernel
theorem dX4_finesDue_19 : decode cX4_finesDue 19 = .ok (.ifCond .eq 27, 3) := by decide +kernel
theorem dX4_finesDue_22 : decode cX4_finesDue 22 = .ok (.aload_n 0, 1) := by decide +kernel
theorem dX4_finesDue_23 : decode cX4_finesDue 23 = .ok (.getfield 19, 3) := by decide +kernel
theorem dX4_finesDue_26 : decode cX4_finesDue 26 = .ok (.iload_n 2, 1) := by decide +kernel
theorem dX4_finesDue_27 : decode cX4_finesDue 27 = .ok (.aaload, 1) := by decide +kernel
theorem dX4_finesDue_28 : decode cX4_finesDue 28 = .ok (.getfield 114, 3) := by decide +kernel
theorem dX4_finesDue_31 : decode cX4_finesDue 31 = .ok (.aload_n 0, 1) := by decide +kernel
theorem dX4_finesDue_32 : decode cX4_finesDue 32 = .ok (.getfield 55, 3) := by decide +kernel
theorem dX4_finesDue_35 : decode cX4_finesDue 35 = .ok (.if_icmp .ge 11, 3) := by decide +kernel
theorem dX4_finesDue_38 : decode cX4_finesDue 38 = .ok (.iload_n 1, 1) := by decide +kernel
theorem dX4_finesDue_39 : decode cX4_finesDue 39 = .ok (.aload_n 0, 1) := by decide +kernel
theorem dX4_finesDue_40 : decode cX4_finesDue 40 = .ok (.iload_n 2, 1) := by decide +kernel
theorem dX4_finesDue_41 : decode cX4_finesDue 41 = .ok (.invokevirtual 117, 3) := by decide +kernel
theorem dX4_finesDue_44 : decode cX4_finesDue 44 = .ok (.iadd, 1) := by decide +kernel
theorem dX4_finesDue_45 : decode cX4_finesDue 45 = .ok (.istore_n 1, 1) := by decide +kernel
theorem dX4_finesDue_46 : decode cX4_finesDue 46 = .ok (.iinc 2 1, 3) := by decide +kernel
theorem dX4_finesDue_49 : decode cX4_finesDue 49 = .ok (.goto (-45), 3) := by decide +kernel
theorem dX4_finesDue_52 : decode cX4_finesDue 52 = .ok (.iload_n 1, 1) := by decide +kernel
theorem dX4_finesDue_53 : decode cX4_finesDue 53 = .ok (.ireturn, 1) := by decide +kernel
theorem dX4_finePerWeek_0 : decode cX4_finePerWeek 0 = .ok (.aload_n 0, 1) := by decide +kernel
theorem dX4_finePerWeek_1 : decode cX4_finePerWeek 1 = .ok (.getfield 19, 3) := by decide +kernel
theorem dX4_finePerWeek_4 : decode cX4_finePerWeek 4 = .ok (.iload_n 1, 1) := by decide +kernel
theorem dX4_finePerWeek_5 : decode cX4_finePerWeek 5 = .ok (.aaload, 1) := by decide +kernel
theorem dX4_finePerWeek_6 : decode cX4_finePerWeek 6 = .ok (.getfield 120, 3) := by decide +kernel
theorem dX4_finePerWeek_9 : decode cX4_finePerWeek 9 = .ok (.aload_n 0, 1) := by decide +kernel
theorem dX4_finePerWeek_10 : decode cX4_finePerWeek 10 = .ok (.getfield 11, 3) := by decide +kernel
theorem dX4_finePerWeek_13 : decode cX4_finePerWeek 13 = .ok (.iload_n 1, 1) := by decide +kernel
theorem dX4_finePerWeek_14 : decode cX4_finePerWeek 14 = .ok (.aaload, 1) := by decide +kernel
theorem dX4_finePerWeek_15 : decode cX4_finePerWeek 15 = .ok (.iconst 0, 1) := by decide +kernel
theorem dX4_finePerWeek_16 : decode cX4_finePerWeek 16 = .ok (.invokevirtual 101, 3) := by decide +kernel
theorem dX4_finePerWeek_19 : decode cX4_finePerWeek 19 = .ok (.imul, 1) := by decide +kernel
theorem dX4_finePerWeek_20 : decode cX4_finePerWeek 20 = .ok (.ireturn, 1) := by decide +kernel
theorem dX4_spend_0 : decode cX4_spend 0 = .ok (.aload_n 0, 1) := by decide +kernel
theorem dX4_spend_1 : decode cX4_spend 1 = .ok (.getfield 45, 3) := by decide +kernel
theorem dX4_spend_4 : decode cX4_spend 4 = .ok (.iload_n 1, 1) := by decide +kernel
theorem dX4_spend_5 : decode cX4_spend 5 = .ok (.invokestatic 123, 3) := by decide +kernel
theorem dX4_spend_8 : decode cX4_spend 8 = .ok (.istore_n 2, 1) := by decide +kernel
theorem dX4_spend_9 : decode cX4_spend 9 = .ok (.aload_n 0, 1) := by decide +kernel
theorem dX4_spend_10 : decode cX4_spend 10 = .ok (.dup, 1) := by decide +kernel
theorem dX4_spend_11 : decode cX4_spend 11 = .ok (.getfield 45, 3) := by decide +kernel
theorem dX4_spend_14 : decode cX4_spend 14 = .ok (.iload_n 2, 1) := by decide +kernel
theorem dX4_spend_15 : decode cX4_spend 15 = .ok (.isub, 1) := by decide +kernel
theorem dX4_spend_16 : decode cX4_spend 16 = .ok (.putfield 45, 3) := by decide +kernel
theorem dX4_spend_19 : decode cX4_spend 19 = .ok (.aload_n 0, 1) := by decide +kernel
theorem dX4_spend_20 : decode cX4_spend 20 = .ok (.dup, 1) := by decide +kernel
theorem dX4_spend_21 : decode cX4_spend 21 = .ok (.getfield 58, 3) := by decide +kernel
theorem dX4_spend_24 : decode cX4_spend 24 = .ok (.iload_n 1, 1) := by decide +kernel
theorem dX4_spend_25 : decode cX4_spend 25 = .ok (.iload_n 2, 1) := by decide +kernel
theorem dX4_spend_26 : decode cX4_spend 26 = .ok (.isub, 1) := by decide +kernel
theorem dX4_spend_27 : decode cX4_spend 27 = .ok (.iadd, 1) := by decide +kernel
theorem dX4_spend_28 : decode cX4_spend 28 = .ok (.putfield 58, 3) := by decide +kernel
theorem dX4_spend_31 : decode cX4_spend 31 = .ok (.return_, 1) := by decide +kernel
theorem dX4_settingOf_0 : decode cX4_settingOf 0 = .ok (.iload_n 1, 1) := by decide +kernel
theorem dX4_settingOf_1 : decode cX4_settingOf 1 = .ok (.lookupswitch 37 #[(0, 27), (1, 32)], 27) := by decide +kernel
theorem dX4_settingOf_28 : decode cX4_settingOf 28 = .ok (.aload_n 0, 1) := by decide +kernel
theorem dX4_settingOf_29 : decode cX4_settingOf 29 = .ok (.getfield 29, 3) := by decide +kernel
theorem dX4_settingOf_32 : decode cX4_settingOf 32 = .ok (.ireturn, 1) := by decide +kernel
theorem dX4_settingOf_33 : decode cX4_settingOf 33 = .ok (.aload_n 0, 1) := by decide +kernel
theorem dX4_settingOf_34 : decode cX4_settingOf 34 = .ok (.getfield 33, 3) := by decide +kernel
theorem dX4_settingOf_37 : decode cX4_settingOf 37 = .ok (.ireturn, 1) := by decide +kernel
theorem dX4_settingOf_38 : decode cX4_settingOf 38 = .ok (.aload_n 0, 1) := by decide +kernel
theorem dX4_settingOf_39 : decode cX4_settingOf 39 = .ok (.getfield 36, 3) := by decide +kernel
theorem dX4_settingOf_42 : decode cX4_settingOf 42 = .ok (.ireturn, 1) := by decide +kernel
theorem dX4_changeSetting_0 : decode cX4_changeSetting 0 = .ok (.iload_n 1, 1) := by decide +kernel
theorem dX4_changeSetting_1 : decode cX4_changeSetting 1 = .ok (.lookupswitch 43 #[(0, 27), (1, 35)], 27) := by decide +kernel
theorem dX4_changeSetting_28 : decode cX4_changeSetting 28 = .ok (.aload_n 0, 1) := by decide +kernel
theorem dX4_changeSetting_29 : decode cX4_changeSetting 29 = .ok (.iload_n 2, 1) := by decide +kernel
theorem dX4_changeSetting_30 : decode cX4_changeSetting 30 = .ok (.putfield 29, 3) := by decide +kernel
theorem dX4_changeSetting_33 : decode cX4_changeSetting 33 = .ok (.goto 35, 3) := by decide +kernel
theorem dX4_changeSetting_36 : decode cX4_changeSetting 36 = .ok (.aload_n 0, 1) := by decide +kernel
theorem dX4_changeSetting_37 : decode cX4_changeSetting 37 = .ok (.iload_n 2, 1) := by decide +kernel
theorem dX4_changeSetting_38 : decode cX4_changeSetting 38 = .ok (.putfield 33, 3) := by decide +kernel
theorem dX4_changeSetting_41 : decode cX4_changeSetting 41 = .ok (.goto 27, 3) := by decide +kernel
theorem dX4_changeSetting_44 : decode cX4_changeSetting 44 = .ok (.aload_n 0, 1) := by decide +kernel
theorem dX4_changeSetting_45 : decode cX4_changeSetting 45 = .ok (.aload_n 0, 1) := by decide +kernel
theorem dX4_changeSetting_46 : decode cX4_changeSetting 46 = .ok (.getfield 39, 3) := by decide +kernel
theorem dX4_changeSetting_49 : decode cX4_changeSetting 49 = .ok (.iload_n 2, 1) := by decide +kernel
theorem dX4_changeSetting_50 : decode cX4_changeSetting 50 = .ok (.iadd, 1) := by decide +kernel
theorem dX4_changeSetting_51 : decode cX4_changeSetting 51 = .ok (.aload_n 0, 1) := by decide +kernel
theorem dX4_changeSetting_52 : decode cX4_changeSetting 52 = .ok (.getfield 36, 3) := by decide +kernel
theorem dX4_changeSetting_55 : decode cX4_changeSetting 55 = .ok (.isub, 1) := by decide +kernel
theorem dX4_changeSetting_56 : decode cX4_changeSetting 56 = .ok (.iconst 0, 1) := by decide +kernel
theorem dX4_changeSetting_57 : decode cX4_changeSetting 57 = .ok (.invokestatic 129, 3) := by decide +kernel
theorem dX4_changeSetting_60 : decode cX4_changeSetting 60 = .ok (.putfield 39, 3) := by decide +kernel
theorem dX4_changeSetting_63 : decode cX4_changeSetting 63 = .ok (.aload_n 0, 1) := by decide +kernel
theorem dX4_changeSetting_64 : decode cX4_changeSetting 64 = .ok (.iload_n 2, 1) := by decide +kernel
theorem dX4_changeSetting_65 : decode cX4_changeSetting 65 = .ok (.putfield 36, 3) := by decide +kernel
theorem dX4_changeSetting_68 : decode cX4_changeSetting 68 = .ok (.return_, 1) := by decide +kernel
theorem dX4_weeksUntilLaid_0 : decode cX4_weeksUntilLaid 0 = .ok (.aload_n 0, 1) := by decide +kernel
theorem dX4_weeksUntilLaid_1 : decode cX4_weeksUntilLaid 1 = .ok (.getfield 11, 3) := by decide +kernel
theorem dX4_weeksUntilLaid_4 : decode cX4_weeksUntilLaid 4 = .ok (.iload_n 1, 1) := by decide +kernel
theorem dX4_weeksUntilLaid_5 : decode cX4_weeksUntilLaid 5 = .ok (.aaload, 1) := by decide +kernel
theorem dX4_weeksUntilLaid_6 : decode cX4_weeksUntilLaid 6 = .ok (.astore_n 2, 1) := by decide +kernel
theorem dX4_weeksUntilLaid_7 : decode cX4_weeksUntilLaid 7 = .ok (.iconst 0, 1) := by decide +kernel
theorem dX4_weeksUntilLaid_8 : decode cX4_weeksUntilLaid 8 = .ok (.istore_n 3, 1) := by decide +kernel
theorem dX4_weeksUntilLaid_9 : decode cX4_weeksUntilLaid 9 = .ok (.aload_n 0, 1) := by decide +kernel
theorem dX4_weeksUntilLaid_10 : decode cX4_weeksUntilLaid 10 = .ok (.iconst 0, 1) := by decide +kernel
theorem dX4_weeksUntilLaid_11 : decode cX4_weeksUntilLaid 11 = .ok (.invokevirtual 132, 3) := by decide +kernel
theorem dX4_weeksUntilLaid_14 : decode cX4_weeksUntilLaid 14 = .ok (.istore 4, 2) := by decide +kernel
theorem dX4_weeksUntilLaid_16 : decode cX4_weeksUntilLaid 16 = .ok (.iconst 0, 1) := by decide +kernel
theorem dX4_weeksUntilLaid_17 : decode cX4_weeksUntilLaid 17 = .ok (.istore 5, 2) := by decide +kernel
theorem dX4_weeksUntilLaid_19 : decode cX4_weeksUntilLaid 19 = .ok (.iload 5, 2) := by decide +kernel
theorem dX4_weeksUntilLaid_21 : decode cX4_weeksUntilLaid 21 = .ok (.aload_n 2, 1) := by decide +kernel
theorem dX4_weeksUntilLaid_22 : decode cX4_weeksUntilLaid 22 = .ok (.getfield 135, 3) := by decide +kernel
theorem dX4_weeksUntilLaid_25 : decode cX4_weeksUntilLaid 25 = .ok (.if_icmp .ge 74, 3) := by decide +kernel
theorem dX4_weeksUntilLaid_28 : decode cX4_weeksUntilLaid 28 = .ok (.aload_n 2, 1) := by decide +kernel
theorem dX4_weeksUntilLaid_29 : decode cX4_weeksUntilLaid 29 = .ok (.iload 5, 2) := by decide +kernel
theorem dX4_weeksUntilLaid_31 : decode cX4_weeksUntilLaid 31 = .ok (.invokevirtual 73, 3) := by decide +kernel
theorem dX4_weeksUntilLaid_34 : decode cX4_weeksUntilLaid 34 = .ok (.ifCond .eq 12, 3) := by decide +kernel
theorem dX4_weeksUntilLaid_37 : decode cX4_weeksUntilLaid 37 = .ok (.aload_n 2, 1) := by decide +kernel
theorem dX4_weeksUntilLaid_38 : decode cX4_weeksUntilLaid 38 = .ok (.iload 5, 2) := by decide +kernel
theorem dX4_weeksUntilLaid_40 : decode cX4_weeksUntilLaid 40 = .ok (.invokevirtual 77, 3) := by decide +kernel
theorem dX4_weeksUntilLaid_43 : decode cX4_weeksUntilLaid 43 = .ok (.goto 4, 3) := by decide +kernel
theorem dX4_weeksUntilLaid_46 : decode cX4_weeksUntilLaid 46 = .ok (.iconst 0, 1) := by decide +kernel
theorem dX4_weeksUntilLaid_47 : decode cX4_weeksUntilLaid 47 = .ok (.istore 6, 2) := by decide +kernel
theorem dX4_weeksUntilLaid_49 : decode cX4_weeksUntilLaid 49 = .ok (.iload 4, 2) := by decide +kernel
theorem dX4_weeksUntilLaid_51 : decode cX4_weeksUntilLaid 51 = .ok (.iload 6, 2) := by decide +kernel
theorem dX4_weeksUntilLaid_53 : decode cX4_weeksUntilLaid 53 = .ok (.if_icmp .ge 23, 3) := by decide +kernel
theorem dX4_weeksUntilLaid_56 : decode cX4_weeksUntilLaid 56 = .ok (.iload_n 3, 1) := by decide +kernel
theorem dX4_weeksUntilLaid_57 : decode cX4_weeksUntilLaid 57 = .ok (.sipush 200, 3) := by decide +kernel
theorem dX4_weeksUntilLaid_60 : decode cX4_weeksUntilLaid 60 = .ok (.if_icmp .ge 16, 3) := by decide +kernel
theorem dX4_weeksUntilLaid_63 : decode cX4_weeksUntilLaid 63 = .ok (.iinc 3 1, 3) := by decide +kernel
theorem dX4_weeksUntilLaid_66 : decode cX4_weeksUntilLaid 66 = .ok (.aload_n 0, 1) := by decide +kernel
theorem dX4_weeksUntilLaid_67 : decode cX4_weeksUntilLaid 67 = .ok (.iload_n 3, 1) := by decide +kernel
theorem dX4_weeksUntilLaid_68 : decode cX4_weeksUntilLaid 68 = .ok (.invokevirtual 132, 3) := by decide +kernel
theorem dX4_weeksUntilLaid_71 : decode cX4_weeksUntilLaid 71 = .ok (.istore 4, 2) := by decide +kernel
theorem dX4_weeksUntilLaid_73 : decode cX4_weeksUntilLaid 73 = .ok (.goto (-24), 3) := by decide +kernel
theorem dX4_weeksUntilLaid_76 : decode cX4_weeksUntilLaid 76 = .ok (.iload 4, 2) := by decide +kernel
theorem dX4_weeksUntilLaid_78 : decode cX4_weeksUntilLaid 78 = .ok (.iload 6, 2) := by decide +kernel
theorem dX4_weeksUntilLaid_80 : decode cX4_weeksUntilLaid 80 = .ok (.if_icmp .ge 6, 3) := by decide +kernel
theorem dX4_weeksUntilLaid_83 : decode cX4_weeksUntilLaid 83 = .ok (.bipush (-9), 2) := by decide +kernel
theorem dX4_weeksUntilLaid_85 : decode cX4_weeksUntilLaid 85 = .ok (.ireturn, 1) := by decide +kernel
theorem dX4_weeksUntilLaid_86 : decode cX4_weeksUntilLaid 86 = .ok (.iload 4, 2) := by decide +kernel
theorem dX4_weeksUntilLaid_88 : decode cX4_weeksUntilLaid 88 = .ok (.iload 6, 2) := by decide +kernel
theorem dX4_weeksUntilLaid_90 : decode cX4_weeksUntilLaid 90 = .ok (.isub, 1) := by decide +kernel
theorem dX4_weeksUntilLaid_91 : decode cX4_weeksUntilLaid 91 = .ok (.istore 4, 2) := by decide +kernel
theorem dX4_weeksUntilLaid_93 : decode cX4_weeksUntilLaid 93 = .ok (.iinc 5 1, 3) := by decide +kernel
theorem dX4_weeksUntilLaid_96 : decode cX4_weeksUntilLaid 96 = .ok (.goto (-77), 3) := by decide +kernel
theorem dX4_weeksUntilLaid_99 : decode cX4_weeksUntilLaid 99 = .ok (.iload_n 3, 1) := by decide +kernel
theorem dX4_weeksUntilLaid_100 : decode cX4_weeksUntilLaid 100 = .ok (.ireturn, 1) := by decide +kernel
theorem dX4_workAfter_0 : decode cX4_workAfter 0 = .ok (.aload_n 0, 1) := by decide +kernel
theorem dX4_workAfter_1 : decode cX4_workAfter 1 = .ok (.aload_n 0, 1) := by decide +kernel
theorem dX4_workAfter_2 : decode cX4_workAfter 2 = .ok (.getfield 55, 3) := by decide +kernel
theorem dX4_workAfter_5 : decode cX4_workAfter 5 = .ok (.iload_n 1, 1) := by decide +kernel
theorem dX4_workAfter_6 : decode cX4_workAfter 6 = .ok (.iadd, 1) := by decide +kernel
theorem dX4_workAfter_7 : decode cX4_workAfter 7 = .ok (.invokevirtual 138, 3) := by decide +kernel
theorem dX4_workAfter_10 : decode cX4_workAfter 10 = .ok (.ifCond .eq 5, 3) := by decide +kernel
theorem dX4_workAfter_13 : decode cX4_workAfter 13 = .ok (.iconst 0, 1) := by decide +kernel
theorem dX4_workAfter_14 : decode cX4_workAfter 14 = .ok (.ireturn, 1) := by decide +kernel
theorem dX4_workAfter_15 : decode cX4_workAfter 15 = .ok (.iload_n 1, 1) := by decide +kernel
theorem dX4_workAfter_16 : decode cX4_workAfter 16 = .ok (.ifCond .ne 10, 3) := by decide +kernel
theorem dX4_workAfter_19 : decode cX4_workAfter 19 = .ok (.aload_n 0, 1) := by decide +kernel
theorem dX4_workAfter_20 : decode cX4_workAfter 20 = .ok (.getfield 39, 3) := by decide +kernel
theorem dX4_workAfter_23 : decode cX4_workAfter 23 = .ok (.goto 7, 3) := by decide +kernel
theorem dX4_workAfter_26 : decode cX4_workAfter 26 = .ok (.aload_n 0, 1) := by decide +kernel
theorem dX4_workAfter_27 : decode cX4_workAfter 27 = .ok (.getfield 36, 3) := by decide +kernel
theorem dX4_workAfter_30 : decode cX4_workAfter 30 = .ok (.ireturn, 1) := by decide +kernel
theorem dX4_weeksOfWork_0 : decode cX4_weeksOfWork 0 = .ok (.aload_n 0, 1) := by decide +kernel
theorem dX4_weeksOfWork_1 : decode cX4_weeksOfWork 1 = .ok (.getfield 11, 3) := by decide +kernel
theorem dX4_weeksOfWork_4 : decode cX4_weeksOfWork 4 = .ok (.iload_n 1, 1) := by decide +kernel
theorem dX4_weeksOfWork_5 : decode cX4_weeksOfWork 5 = .ok (.aaload, 1) := by decide +kernel
theorem dX4_weeksOfWork_6 : decode cX4_weeksOfWork 6 = .ok (.invokevirtual 141, 3) := by decide +kernel
theorem dX4_weeksOfWork_9 : decode cX4_weeksOfWork 9 = .ok (.aload_n 0, 1) := by decide +kernel
theorem dX4_weeksOfWork_10 : decode cX4_weeksOfWork 10 = .ok (.getfield 36, 3) := by decide +kernel
theorem dX4_weeksOfWork_13 : decode cX4_weeksOfWork 13 = .ok (.iadd, 1) := by decide +kernel
theorem dX4_weeksOfWork_14 : decode cX4_weeksOfWork 14 = .ok (.iconst 1, 1) := by decide +kernel
theorem dX4_weeksOfWork_15 : decode cX4_weeksOfWork 15 = .ok (.isub, 1) := by decide +kernel
theorem dX4_weeksOfWork_16 : decode cX4_weeksOfWork 16 = .ok (.aload_n 0, 1) := by decide +kernel
theorem dX4_weeksOfWork_17 : decode cX4_weeksOfWork 17 = .ok (.getfield 36, 3) := by decide +kernel
theorem dX4_weeksOfWork_20 : decode cX4_weeksOfWork 20 = .ok (.iconst 1, 1) := by decide +kernel
theorem dX4_weeksOfWork_21 : decode cX4_weeksOfWork 21 = .ok (.invokestatic 129, 3) := by decide +kernel
theorem dX4_weeksOfWork_24 : decode cX4_weeksOfWork 24 = .ok (.idiv, 1) := by decide +kernel
theorem dX4_weeksOfWork_25 : decode cX4_weeksOfWork 25 = .ok (.ireturn, 1) := by decide +kernel
theorem dX5_init_0 : decode cX5_init 0 = .ok (.aload_n 0, 1) := by decide +kernel
theorem dX5_init_1 : decode cX5_init 1 = .ok (.invokespecial 3, 3) := by decide +kernel
theorem dX5_init_4 : decode cX5_init 4 = .ok (.aload_n 0, 1) := by decide +kernel
theorem dX5_init_5 : decode cX5_init 5 = .ok (.bipush 6, 2) := by decide +kernel
theorem dX5_init_7 : decode cX5_init 7 = .ok (.newarray .int, 2) := by decide +kernel
theorem dX5_init_9 : decode cX5_init 9 = .ok (.putfield 9, 3) := by decide +kernel
theorem dX5_init_12 : decode cX5_init 12 = .ok (.aload_n 0, 1) := by decide +kernel
theorem dX5_init_13 : decode cX5_init 13 = .ok (.bipush 6, 2) := by decide +kernel
theorem dX5_init_15 : decode cX5_init 15 = .ok (.newarray .int, 2) := by decide +kernel
theorem dX5_init_17 : decode cX5_init 17 = .ok (.putfield 15, 3) := by decide +kernel
theorem dX5_init_20 : decode cX5_init 20 = .ok (.aload_n 0, 1) := by decide +kernel
theorem dX5_init_21 : decode cX5_init 21 = .ok (.bipush 6, 2) := by decide +kernel
theorem dX5_init_23 : decode cX5_init 23 = .ok (.newarray .int, 2) := by decide +kernel
theorem dX5_init_25 : decode cX5_init 25 = .ok (.putfield 18, 3) := by decide +kernel
theorem dX5_init_28 : decode cX5_init 28 = .ok (.aload_n 0, 1) := by decide +kernel
theorem dX5_init_29 : decode cX5_init 29 = .ok (.bipush 64, 2) := by decide +kernel
theorem dX5_init_31 : decode cX5_init 31 = .ok (.newarray .int, 2) := by decide +kernel
theorem dX5_init_33 : decode cX5_init 33 = .ok (.putfield 21, 3) := by decide +kernel
theorem dX5_init_36 : decode cX5_init 36 = .ok (.return_, 1) := by decide +kernel
theorem dX5_reckon_0 : decode cX5_reckon 0 = .ok (.aload_n 0, 1) := by decide +kernel
theorem dX5_reckon_1 : decode cX5_reckon 1 = .ok (.aload_n 1, 1) := by decide +kernel
theorem dX5_reckon_2 : decode cX5_reckon 2 = .ok (.invokevirtual 24, 3) := by decide +kernel
theorem dX5_reckon_5 : decode cX5_reckon 5 = .ok (.aload_n 0, 1) := by decide +kernel
theorem dX5_reckon_6 : decode cX5_reckon 6 = .ok (.getfield 21, 3) := by decide +kernel
theorem dX5_reckon_9 : decode cX5_reckon 9 = .ok (.iconst 0, 1) := by decide +kernel
theorem dX5_reckon_10 : decode cX5_reckon 10 = .ok (.iconst 0, 1) := by decide +kernel
theorem dX5_reckon_11 : decode cX5_reckon 11 = .ok (.iastore, 1) := by decide +kernel
theorem dX5_reckon_12 : decode cX5_reckon 12 = .ok (.iconst 1, 1) := by decide +kernel
theorem dX5_reckon_13 : decode cX5_reckon 13 = .ok (.istore_n 2, 1) := by decide +kernel
theorem dX5_reckon_14 : decode cX5_reckon 14 = .ok (.iload_n 2, 1) := by decide +kernel
theorem dX5_reckon_15 : decode cX5_reckon 15 = .ok (.aload_n 0, 1) := by decide +kernel
theorem dX5_reckon_16 : decode cX5_reckon 16 = .ok (.getfield 21, 3) := by decide +kernel
theorem dX5_reckon_19 : decode cX5_reckon 19 = .ok (.arraylength, 1) := by decide +kernel
theorem dX5_reckon_20 : decode cX5_reckon 20 = .ok (.if_icmp .ge 31, 3) := by decide +kernel
theorem dX5_reckon_23 : decode cX5_reckon 23 = .ok (.iload_n 2, 1) := by decide +kernel
theorem dX5_reckon_24 : decode cX5_reckon 24 = .ok (.aload_n 0, 1) := by decide +kernel
theorem dX5_reckon_25 : decode cX5_reckon 25 = .ok (.getfield 28, 3) := by decide +kernel
theorem dX5_reckon_28 : decode cX5_reckon 28 = .ok (.iconst (-1), 1) := by decide +kernel
theorem dX5_reckon_29 : decode cX5_reckon 29 = .ok (.ixor, 1) := by decide +kernel
theorem dX5_reckon_30 : decode cX5_reckon 30 = .ok (.iand, 1) := by decide +kernel
theorem dX5_reckon_31 : decode cX5_reckon 31 = .ok (.ifCond .ne 14, 3) := by decide +kernel
theorem dX5_reckon_34 : decode cX5_reckon 34 = .ok (.aload_n 0, 1) := by decide +kernel
theorem dX5_reckon_35 : decode cX5_reckon 35 = .ok (.getfield 21, 3) := by decide +kernel
theorem dX5_reckon_38 : decode cX5_reckon 38 = .ok (.iload_n 2, 1) := by decide +kernel
theorem dX5_reckon_39 : decode cX5_reckon 39 = .ok (.aload_n 0, 1) := by decide +kernel
theorem dX5_reckon_40 : decode cX5_reckon 40 = .ok (.iload_n 2, 1) := by decide +kernel
theorem dX5_reckon_41 : decode cX5_reckon 41 = .ok (.invokevirtual 32, 3) := by decide +kernel
theorem dX5_reckon_44 : decode cX5_reckon 44 = .ok (.iastore, 1) := by decide +kernel
theorem dX5_reckon_45 : decode cX5_reckon 45 = .ok (.iinc 2 1, 3) := by decide +kernel
theorem dX5_reckon_48 : decode cX5_reckon 48 = .ok (.goto (-34), 3) := by decide +kernel
theorem dX5_reckon_51 : decode cX5_reckon 51 = .ok (.return_, 1) := by decide +kernel
theorem dX5_lookAt_0 : decode cX5_lookAt 0 = .ok (.aload_n 0, 1) := by decide +kernel
theorem dX5_lookAt_1 : decode cX5_lookAt 1 = .ok (.iconst 0, 1) := by decide +kernel
theorem dX5_lookAt_2 : decode cX5_lookAt 2 = .ok (.putfield 28, 3) := by decide +kernel
theorem dX5_lookAt_5 : decode cX5_lookAt 5 = .ok (.aload_n 0, 1) := by decide +kernel
theorem dX5_lookAt_6 : decode cX5_lookAt 6 = .ok (.aload_n 1, 1) := by decide +kernel
theorem dX5_lookAt_7 : decode cX5_lookAt 7 = .ok (.getfield 36, 3) := by decide +kernel
theorem dX5_lookAt_10 : decode cX5_lookAt 10 = .ok (.putfield 41, 3) := by decide +kernel
theorem dX5_lookAt_13 : decode cX5_lookAt 13 = .ok (.iconst 0, 1) := by decide +kernel
theorem dX5_lookAt_14 : decode cX5_lookAt 14 = .ok (.istore_n 2, 1) := by decide +kernel
theorem dX5_lookAt_15 : decode cX5_lookAt 15 = .ok (.iload_n 2, 1) := by decide +kernel
theorem dX5_lookAt_16 : decode cX5_lookAt 16 = .ok (.bipush 6, 2) := by decide +kernel
theorem dX5_lookAt_18 : decode cX5_lookAt 18 = .ok (.if_icmp .ge 70, 3) := by decide +kernel
theorem dX5_lookAt_21 : decode cX5_lookAt 21 = .ok (.aload_n 1, 1) := by decide +kernel
theorem dX5_lookAt_22 : decode cX5_lookAt 22 = .ok (.getfield 44, 3) := by decide +kernel
theorem dX5_lookAt_25 : decode cX5_lookAt 25 = .ok (.iload_n 2, 1) := by decide +kernel
theorem dX5_lookAt_26 : decode cX5_lookAt 26 = .ok (.aaload, 1) := by decide +kernel
theorem dX5_lookAt_27 : decode cX5_lookAt 27 = .ok (.getfield 48, 3) := by decide +kernel
theorem dX5_lookAt_30 : decode cX5_lookAt 30 = .ok (.ifCond .eq 15, 3) := by decide +kernel
theorem dX5_lookAt_33 : decode cX5_lookAt 33 = .ok (.aload_n 0, 1) := by decide +kernel
theorem dX5_lookAt_34 : decode cX5_lookAt 34 = .ok (.dup, 1) := by decide +kernel
theorem dX5_lookAt_35 : decode cX5_lookAt 35 = .ok (.getfield 28, 3) := by decide +kernel
theorem dX5_lookAt_38 : decode cX5_lookAt 38 = .ok (.iconst 1, 1) := by decide +kernel
theorem dX5_lookAt_39 : decode cX5_lookAt 39 = .ok (.iload_n 2, 1) := by decide +kernel
theorem dX5_lookAt_40 : decode cX5_lookAt 40 = .ok (.ishl, 1) := by decide +kernel
theorem dX5_lookAt_41 : decode cX5_lookAt 41 = .ok (.ior, 1) := by decide +kernel
theorem dX5_lookAt_42 : decode cX5_lookAt 42 = .ok (.putfield 28, 3) := by decide +kernel
theorem dX5_lookAt_45 : decode cX5_lookAt 45 = .ok (.aload_n 0, 1) := by decide +kernel
theorem dX5_lookAt_46 : decode cX5_lookAt 46 = .ok (.getfield 9, 3) := by decide +kernel
theorem dX5_lookAt_49 : decode cX5_lookAt 49 = .ok (.iload_n 2, 1) := by decide +kernel
theorem dX5_lookAt_50 : decode cX5_lookAt 50 = .ok (.aload_n 1, 1) := by decide +kernel
theorem dX5_lookAt_51 : decode cX5_lookAt 51 = .ok (.iload_n 2, 1) := by decide +kernel
theorem dX5_lookAt_52 : decode cX5_lookAt 52 = .ok (.invokevirtual 54, 3) := by decide +kernel
theorem dX5_lookAt_55 : decode cX5_lookAt 55 = .ok (.iastore, 1) := by decide +kernel
theorem dX5_lookAt_56 : decode cX5_lookAt 56 = .ok (.aload_n 0, 1) := by decide +kernel
theorem dX5_lookAt_57 : decode cX5_lookAt 57 = .ok (.getfield 15, 3) := by decide +kernel
theorem dX5_lookAt_60 : decode cX5_lookAt 60 = .ok (.iload_n 2, 1) := by decide +kernel
theorem dX5_lookAt_61 : decode cX5_lookAt 61 = .ok (.aload_n 1, 1) := by decide +kernel
theorem dX5_lookAt_62 : decode cX5_lookAt 62 = .ok (.getfield 44, 3) := by decide +kernel
theorem dX5_lookAt_65 : decode cX5_lookAt 65 = .ok (.iload_n 2, 1) := by decide +kernel
theorem dX5_lookAt_66 : decode cX5_lookAt 66 = .ok (.aaload, 1) := by decide +kernel
theorem dX5_lookAt_67 : decode cX5_lookAt 67 = .ok (.getfield 57, 3) := by decide +kernel
theorem dX5_lookAt_70 : decode cX5_lookAt 70 = .ok (.iastore, 1) := by decide +kernel
theorem dX5_lookAt_71 : decode cX5_lookAt 71 = .ok (.aload_n 0, 1) := by decide +kernel
theorem dX5_lookAt_72 : decode cX5_lookAt 72 = .ok (.getfield 18, 3) := by decide +kernel
theorem dX5_lookAt_75 : decode cX5_lookAt 75 = .ok (.iload_n 2, 1) := by decide +kernel
theorem dX5_lookAt_76 : decode cX5_lookAt 76 = .ok (.aload_n 1, 1) := by decide +kernel
theorem dX5_lookAt_77 : decode cX5_lookAt 77 = .ok (.iload_n 2, 1) := by decide +kernel
theorem dX5_lookAt_78 : decode cX5_lookAt 78 = .ok (.invokevirtual 60, 3) := by decide +kernel
theorem dX5_lookAt_81 : decode cX5_lookAt 81 = .ok (.iastore, 1) := by decide +kernel
theorem dX5_lookAt_82 : decode cX5_lookAt 82 = .ok (.iinc 2 1, 3) := by decide +kernel
theorem dX5_lookAt_85 : decode cX5_lookAt 85 = .ok (.goto (-70), 3) := by decide +kernel
theorem dX5_lookAt_88 : decode cX5_lookAt 88 = .ok (.return_, 1) := by decide +kernel
theorem dX5_leastOf_0 : decode cX5_leastOf 0 = .ok (.ldc 65, 2) := by decide +kernel
theorem dX5_leastOf_2 : decode cX5_leastOf 2 = .ok (.istore_n 2, 1) := by decide +kernel
theorem dX5_leastOf_3 : decode cX5_leastOf 3 = .ok (.iconst 0, 1) := by decide +kernel
theorem dX5_leastOf_4 : decode cX5_leastOf 4 = .ok (.istore_n 3, 1) := by decide +kernel
theorem dX5_leastOf_5 : decode cX5_leastOf 5 = .ok (.iload_n 3, 1) := by decide +kernel
theorem dX5_leastOf_6 : decode cX5_leastOf 6 = .ok (.bipush 6, 2) := by decide +kernel
theorem dX5_leastOf_8 : decode cX5_leastOf 8 = .ok (.if_icmp .ge 28, 3) := by decide +kernel
theorem dX5_leastOf_11 : decode cX5_leastOf 11 = .ok (.iload_n 3, 1) := by decide +kernel
theorem dX5_leastOf_12 : decode cX5_leastOf 12 = .ok (.iload_n 1, 1) := by decide +kernel
theorem dX5_leastOf_13 : decode cX5_leastOf 13 = .ok (.invokestatic 66, 3) := by decide +kernel
theorem dX5_leastOf_16 : decode cX5_leastOf 16 = .ok (.ifCond .eq 14, 3) := by decide +kernel
theorem dX5_leastOf_19 : decode cX5_leastOf 19 = .ok (.iload_n 2, 1) := by decide +kernel
theorem dX5_leastOf_20 : decode cX5_leastOf 20 = .ok (.aload_n 0, 1) := by decide +kernel
theorem dX5_leastOf_21 : decode cX5_leastOf 21 = .ok (.iload_n 3, 1) := by decide +kernel
theorem dX5_leastOf_22 : decode cX5_leastOf 22 = .ok (.iload_n 1, 1) := by decide +kernel
theorem dX5_leastOf_23 : decode cX5_leastOf 23 = .ok (.invokevirtual 70, 3) := by decide +kernel
theorem dX5_leastOf_26 : decode cX5_leastOf 26 = .ok (.invokestatic 74, 3) := by decide +kernel
theorem dX5_leastOf_29 : decode cX5_leastOf 29 = .ok (.istore_n 2, 1) := by decide +kernel
theorem dX5_leastOf_30 : decode cX5_leastOf 30 = .ok (.iinc 3 1, 3) := by decide +kernel
theorem dX5_leastOf_33 : decode cX5_leastOf 33 = .ok (.goto (-28), 3) := by decide +kernel
theorem dX5_leastOf_36 : decode cX5_leastOf 36 = .ok (.iload_n 2, 1) := by decide +kernel
theorem dX5_leastOf_37 : decode cX5_leastOf 37 = .ok (.ireturn, 1) := by decide +kernel
theorem dX5_finesIfNext_0 : decode cX5_finesIfNext 0 = .ok (.aload_n 0, 1) := by decide +kernel
theorem dX5_finesIfNext_1 : decode cX5_finesIfNext 1 = .ok (.getfield 41, 3) := by decide +kernel
theorem dX5_finesIfNext_4 : decode cX5_finesIfNext 4 = .ok (.aload_n 0, 1) := by decide +kernel
theorem dX5_finesIfNext_5 : decode cX5_finesIfNext 5 = .ok (.getfield 9, 3) := by decide +kernel
theorem dX5_finesIfNext_8 : decode cX5_finesIfNext 8 = .ok (.iload_n 1, 1) := by decide +kernel
theorem dX5_finesIfNext_9 : decode cX5_finesIfNext 9 = .ok (.iaload, 1) := by decide +kernel
theorem dX5_finesIfNext_10 : decode cX5_finesIfNext 10 = .ok (.iadd, 1) := by decide +kernel
theorem dX5_finesIfNext_11 : decode cX5_finesIfNext 11 = .ok (.istore_n 3, 1) := by decide +kernel
theorem dX5_finesIfNext_12 : decode cX5_finesIfNext 12 = .ok (.iconst 0, 1) := by decide +kernel
theorem dX5_finesIfNext_13 : decode cX5_finesIfNext 13 = .ok (.istore 4, 2) := by decide +kernel
theorem dX5_finesIfNext_15 : decode cX5_finesIfNext 15 = .ok (.iload 4, 2) := by decide +kernel
theorem dX5_finesIfNext_17 : decode cX5_finesIfNext 17 = .ok (.bipush 6, 2) := by decide +kernel
theorem dX5_finesIfNext_19 : decode cX5_finesIfNext 19 = .ok (.if_icmp .ge 40, 3) := by decide +kernel
theorem dX5_finesIfNext_22 : decode cX5_finesIfNext 22 = .ok (.iload 4, 2) := by decide +kernel
theorem dX5_finesIfNext_24 : decode cX5_finesIfNext 24 = .ok (.aload_n 0, 1) := by decide +kernel
theorem dX5_finesIfNext_25 : decode cX5_finesIfNext 25 = .ok (.getfield 28, 3) := by decide +kernel
theorem dX5_finesIfNext_28 : decode cX5_finesIfNext 28 = .ok (.invokestatic 66, 3) := by decide +kernel
theorem dX5_finesIfNext_31 : decode cX5_finesIfNext 31 = .ok (.ifCond .eq 22, 3) := by decide +kernel
theorem dX5_finesIfNext_34 : decode cX5_finesIfNext 34 = .ok (.iload 4, 2) := by decide +kernel
theorem dX5_finesIfNext_36 : decode cX5_finesIfNext 36 = .ok (.iload_n 2, 1) := by decide +kernel
theorem dX5_finesIfNext_37 : decode cX5_finesIfNext 37 = .ok (.invokestatic 66, 3) := by decide +kernel
theorem dX5_finesIfNext_40 : decode cX5_finesIfNext 40 = .ok (.ifCond .ne 13, 3) := by decide +kernel
theorem dX5_finesIfNext_43 : decode cX5_finesIfNext 43 = .ok (.iload_n 3, 1) := by decide +kernel
theorem dX5_finesIfNext_44 : decode cX5_finesIfNext 44 = .ok (.aload_n 0, 1) := by decide +kernel
theorem dX5_finesIfNext_45 : decode cX5_finesIfNext 45 = .ok (.getfield 9, 3) := by decide +kernel
theorem dX5_finesIfNext_48 : decode cX5_finesIfNext 48 = .ok (.iload 4, 2) := by decide +kernel
theorem dX5_finesIfNext_50 : decode cX5_finesIfNext 50 = .ok (.iaload, 1) := by decide +kernel
theorem dX5_finesIfNext_51 : decode cX5_finesIfNext 51 = .ok (.iadd, 1) := by decide +kernel
theorem dX5_finesIfNext_52 : decode cX5_finesIfNext 52 = .ok (.istore_n 3, 1) := by decide +kernel
theorem dX5_finesIfNext_53 : decode cX5_finesIfNext 53 = .ok (.iinc 4 1, 3) := by decide +kernel
theorem dX5_finesIfNext_56 : decode cX5_finesIfNext 56 = .ok (.goto (-41), 3) := by decide +kernel
theorem dX5_finesIfNext_59 : decode cX5_finesIfNext 59 = .ok (.iload_n 3, 1) := by decide +kernel
theorem dX5_finesIfNext_60 : decode cX5_finesIfNext 60 = .ok (.aload_n 0, 1) := by decide +kernel
theorem dX5_finesIfNext_61 : decode cX5_finesIfNext 61 = .ok (.getfield 15, 3) := by decide +kernel
theorem dX5_finesIfNext_64 : decode cX5_finesIfNext 64 = .ok (.iload_n 1, 1) := by decide +kernel
theorem dX5_finesIfNext_65 : decode cX5_finesIfNext 65 = .ok (.iaload, 1) := by decide +kernel
theorem dX5_finesIfNext_66 : decode cX5_finesIfNext 66 = .ok (.isub, 1) := by decide +kernel
theorem dX5_finesIfNext_67 : decode cX5_finesIfNext 67 = .ok (.iconst 0, 1) := by decide +kernel
theorem dX5_finesIfNext_68 : decode cX5_finesIfNext 68 = .ok (.invokestatic 79, 3) := by decide +kernel
theorem dX5_finesIfNext_71 : decode cX5_finesIfNext 71 = .ok (.istore 4, 2) := by decide +kernel
theorem dX5_finesIfNext_73 : decode cX5_finesIfNext 73 = .ok (.aload_n 0, 1) := by decide +kernel
theorem dX5_finesIfNext_74 : decode cX5_finesIfNext 74 = .ok (.getfield 18, 3) := by decide +kernel
theorem dX5_finesIfNext_77 : decode cX5_finesIfNext 77 = .ok (.iload_n 1, 1) := by decide +kernel
theorem dX5_finesIfNext_78 : decode cX5_finesIfNext 78 = .ok (.iaload, 1) := by decide +kernel
theorem dX5_finesIfNext_79 : decode cX5_finesIfNext 79 = .ok (.iload 4, 2) := by decide +kernel
theorem dX5_finesIfNext_81 : decode cX5_finesIfNext 81 = .ok (.imul, 1) := by decide +kernel
theorem dX5_finesIfNext_82 : decode cX5_finesIfNext 82 = .ok (.aload_n 0, 1) := by decide +kernel
theorem dX5_finesIfNext_83 : decode cX5_finesIfNext 83 = .ok (.getfield 21, 3) := by decide +kernel
theorem dX5_finesIfNext_86 : decode cX5_finesIfNext 86 = .ok (.iload_n 2, 1) := by decide +kernel
theorem dX5_finesIfNext_87 : decode cX5_finesIfNext 87 = .ok (.iconst 1, 1) := by decide +kernel
theorem dX5_finesIfNext_88 : decode cX5_finesIfNext 88 = .ok (.iload_n 1, 1) := by decide +kernel
theorem dX5_finesIfNext_89 : decode cX5_finesIfNext 89 = .ok (.ishl, 1) := by decide +kernel
theorem dX5_finesIfNext_90 : decode cX5_finesIfNext 90 = .ok (.iconst (-1), 1) := by decide +kernel
theorem dX5_finesIfNext_91 : decode cX5_finesIfNext 91 = .ok (.ixor, 1) := by decide +kernel
theorem dX5_finesIfNext_92 : decode cX5_finesIfNext 92 = .ok (.iand, 1) := by decide +kernel
theorem dX5_finesIfNext_93 : decode cX5_finesIfNext 93 = .ok (.iaload, 1) := by decide +kernel
theorem dX5_finesIfNext_94 : decode cX5_finesIfNext 94 = .ok (.iadd, 1) := by decide +kernel
theorem dX5_finesIfNext_95 : decode cX5_finesIfNext 95 = .ok (.ireturn, 1) := by decide +kernel
theorem dX5_isIn_0 : decode cX5_isIn 0 = .ok (.iload_n 1, 1) := by decide +kernel
theorem dX5_isIn_1 : decode cX5_isIn 1 = .ok (.iconst 1, 1) := by decide +kernel
theorem dX5_isIn_2 : decode cX5_isIn 2 = .ok (.iload_n 0, 1) := by decide +kernel
theorem dX5_isIn_3 : decode cX5_isIn 3 = .ok (.ishl, 1) := by decide +kernel
theorem dX5_isIn_4 : decode cX5_isIn 4 = .ok (.iand, 1) := by decide +kernel
theorem dX5_isIn_5 : decode cX5_isIn 5 = .ok (.ifCond .eq 7, 3) := by decide +kernel
theorem dX5_isIn_8 : decode cX5_isIn 8 = .ok (.iconst 1, 1) := by decide +kernel
theorem dX5_isIn_9 : decode cX5_isIn 9 = .ok (.goto 4, 3) := by decide +kernel
theorem dX5_isIn_12 : decode cX5_isIn 12 = .ok (.iconst 0, 1) := by decide +kernel
theorem dX5_isIn_13 : decode cX5_isIn 13 = .ok (.ireturn, 1) := by decide +kernel
theorem dX5_leastFines_0 : decode cX5_leastFines 0 = .ok (.aload_n 0, 1) := by decide +kernel
theorem dX5_leastFines_1 : decode cX5_leastFines 1 = .ok (.getfield 21, 3) := by decide +kernel
theorem dX5_leastFines_4 : decode cX5_leastFines 4 = .ok (.aload_n 0, 1) := by decide +kernel
theorem dX5_leastFines_5 : decode cX5_leastFines 5 = .ok (.getfield 28, 3) := by decide +kernel
theorem dX5_leastFines_8 : decode cX5_leastFines 8 = .ok (.iaload, 1) := by decide +kernel
theorem dX5_leastFines_9 : decode cX5_leastFines 9 = .ok (.ireturn, 1) := by decide +kernel
theorem dX5_firstField_0 : decode cX5_firstField 0 = .ok (.iconst 0, 1) := by decide +kernel
theorem dX5_firstField_1 : decode cX5_firstField 1 = .ok (.istore_n 1, 1) := by decide +kernel
theorem dX5_firstField_2 : decode cX5_firstField 2 = .ok (.iload_n 1, 1) := by decide +kernel
theorem dX5_firstField_3 : decode cX5_firstField 3 = .ok (.bipush 6, 2) := by decide +kernel
theorem dX5_firstField_5 : decode cX5_firstField 5 = .ok (.if_icmp .ge 43, 3) := by decide +kernel
theorem dX5_firstField_8 : decode cX5_firstField 8 = .ok (.iload_n 1, 1) := by decide +kernel
theorem dX5_firstField_9 : decode cX5_firstField 9 = .ok (.aload_n 0, 1) := by decide +kernel
theorem dX5_firstField_10 : decode cX5_firstField 10 = .ok (.getfield 28, 3) := by decide +kernel
theorem dX5_firstField_13 : decode cX5_firstField 13 = .ok (.invokestatic 66, 3) := by decide +kernel
theorem dX5_firstField_16 : decode cX5_firstField 16 = .ok (.ifCond .eq 26, 3) := by decide +kernel
theorem dX5_firstField_19 : decode cX5_firstField 19 = .ok (.aload_n 0, 1) := by decide +kernel
theorem dX5_firstField_20 : decode cX5_firstField 20 = .ok (.iload_n 1, 1) := by decide +kernel
theorem dX5_firstField_21 : decode cX5_firstField 21 = .ok (.aload_n 0, 1) := by decide +kernel
theorem dX5_firstField_22 : decode cX5_firstField 22 = .ok (.getfield 28, 3) := by decide +kernel
theorem dX5_firstField_25 : decode cX5_firstField 25 = .ok (.invokevirtual 70, 3) := by decide +kernel
theorem dX5_firstField_28 : decode cX5_firstField 28 = .ok (.aload_n 0, 1) := by decide +kernel
theorem dX5_firstField_29 : decode cX5_firstField 29 = .ok (.getfield 21, 3) := by decide +kernel
theorem dX5_firstField_32 : decode cX5_firstField 32 = .ok (.aload_n 0, 1) := by decide +kernel
theorem dX5_firstField_33 : decode cX5_firstField 33 = .ok (.getfield 28, 3) := by decide +kernel
theorem dX5_firstField_36 : decode cX5_firstField 36 = .ok (.iaload, 1) := by decide +kernel
theorem dX5_firstField_37 : decode cX5_firstField 37 = .ok (.if_icmp .ne 5, 3) := by decide +kernel
theorem dX5_firstField_40 : decode cX5_firstField 40 = .ok (.iload_n 1, 1) := by decide +kernel
theorem dX5_firstField_41 : decode cX5_firstField 41 = .ok (.ireturn, 1) := by decide +kernel
theorem dX5_firstField_42 : decode cX5_firstField 42 = .ok (.iinc 1 1, 3) := by decide +kernel
theorem dX5_firstField_45 : decode cX5_firstField 45 = .ok (.goto (-43), 3) := by decide +kernel
theorem dX5_firstField_48 : decode cX5_firstField 48 = .ok (.bipush (-9), 2) := by decide +kernel
theorem dX5_firstField_50 : decode cX5_firstField 50 = .ok (.ireturn, 1) := by decide +kernel
theorem dX6_init_0 : decode cX6_init 0 = .ok (.aload_n 0, 1) := by decide +kernel
theorem dX6_init_1 : decode cX6_init 1 = .ok (.invokespecial 3, 3) := by decide +kernel
theorem dX6_init_4 : decode cX6_init 4 = .ok (.aload_n 0, 1) := by decide +kernel
theorem dX6_init_5 : decode cX6_init 5 = .ok (.new 9, 3) := by decide +kernel
theorem dX6_init_8 : decode cX6_init 8 = .ok (.dup, 1) := by decide +kernel
theorem dX6_init_9 : decode cX6_init 9 = .ok (.invokespecial 11, 3) := by decide +kernel
theorem dX6_init_12 : decode cX6_init 12 = .ok (.putfield 12, 3) := by decide +kernel
theorem dX6_init_15 : decode cX6_init 15 = .ok (.aload_n 0, 1) := by decide +kernel
theorem dX6_init_16 : decode cX6_init 16 = .ok (.iconst 2, 1) := by decide +kernel
theorem dX6_init_17 : decode cX6_init 17 = .ok (.anewarray 9, 3) := by decide +kernel
theorem dX6_init_20 : decode cX6_init 20 = .ok (.putfield 18, 3) := by decide +kernel
theorem dX6_init_23 : decode cX6_init 23 = .ok (.aload_n 0, 1) := by decide +kernel
theorem dX6_init_24 : decode cX6_init 24 = .ok (.iconst 2, 1) := by decide +kernel
theorem dX6_init_25 : decode cX6_init 25 = .ok (.newarray .boolean, 2) := by decide +kernel
theorem dX6_init_27 : decode cX6_init 27 = .ok (.putfield 22, 3) := by decide +kernel
theorem dX6_init_30 : decode cX6_init 30 = .ok (.iconst 0, 1) := by decide +kernel
theorem dX6_init_31 : decode cX6_init 31 = .ok (.istore_n 1, 1) := by decide +kernel
theorem dX6_init_32 : decode cX6_init 32 = .ok (.iload_n 1, 1) := by decide +kernel
theorem dX6_init_33 : decode cX6_init 33 = .ok (.iconst 2, 1) := by decide +kernel
theorem dX6_init_34 : decode cX6_init 34 = .ok (.if_icmp .ge 22, 3) := by decide +kernel
theorem dX6_init_37 : decode cX6_init 37 = .ok (.aload_n 0, 1) := by decide +kernel
theorem dX6_init_38 : decode cX6_init 38 = .ok (.getfield 18, 3) := by decide +kernel
theorem dX6_init_41 : decode cX6_init 41 = .ok (.iload_n 1, 1) := by decide +kernel
theorem dX6_init_42 : decode cX6_init 42 = .ok (.new 9, 3) := by decide +kernel
theorem dX6_init_45 : decode cX6_init 45 = .ok (.dup, 1) := by decide +kernel
theorem dX6_init_46 : decode cX6_init 46 = .ok (.invokespecial 11, 3) := by decide +kernel
theorem dX6_init_49 : decode cX6_init 49 = .ok (.aastore, 1) := by decide +kernel
theorem dX6_init_50 : decode cX6_init 50 = .ok (.iinc 1 1, 3) := by decide +kernel
theorem dX6_init_53 : decode cX6_init 53 = .ok (.goto (-21), 3) := by decide +kernel
theorem dX6_init_56 : decode cX6_init 56 = .ok (.return_, 1) := by decide +kernel
theorem dX6_copyFrom_0 : decode cX6_copyFrom 0 = .ok (.aload_n 0, 1) := by decide +kernel
theorem dX6_copyFrom_1 : decode cX6_copyFrom 1 = .ok (.getfield 12, 3) := by decide +kernel
theorem dX6_copyFrom_4 : decode cX6_copyFrom 4 = .ok (.aload_n 1, 1) := by decide +kernel
theorem dX6_copyFrom_5 : decode cX6_copyFrom 5 = .ok (.getfield 12, 3) := by decide +kernel
theorem dX6_copyFrom_8 : decode cX6_copyFrom 8 = .ok (.invokevirtual 26, 3) := by decide +kernel
theorem dX6_copyFrom_11 : decode cX6_copyFrom 11 = .ok (.iconst 0, 1) := by decide +kernel
theorem dX6_copyFrom_12 : decode cX6_copyFrom 12 = .ok (.istore_n 2, 1) := by decide +kernel
theorem dX6_copyFrom_13 : decode cX6_copyFrom 13 = .ok (.iload_n 2, 1) := by decide +kernel
theorem dX6_copyFrom_14 : decode cX6_copyFrom 14 = .ok (.iconst 2, 1) := by decide +kernel
theorem dX6_copyFrom_15 : decode cX6_copyFrom 15 = .ok (.if_icmp .ge 45, 3) := by decide +kernel
theorem dX6_copyFrom_18 : decode cX6_copyFrom 18 = .ok (.aload_n 0, 1) := by decide +kernel
theorem dX6_copyFrom_19 : decode cX6_copyFrom 19 = .ok (.getfield 22, 3) := by decide +kernel
theorem dX6_copyFrom_22 : decode cX6_copyFrom 22 = .ok (.iload_n 2, 1) := by decide +kernel
theorem dX6_copyFrom_23 : decode cX6_copyFrom 23 = .ok (.aload_n 1, 1) := by decide +kernel
theorem dX6_copyFrom_24 : decode cX6_copyFrom 24 = .ok (.getfield 22, 3) := by decide +kernel
theorem dX6_copyFrom_27 : decode cX6_copyFrom 27 = .ok (.iload_n 2, 1) := by decide +kernel
theorem dX6_copyFrom_28 : decode cX6_copyFrom 28 = .ok (.baload, 1) := by decide +kernel
theorem dX6_copyFrom_29 : decode cX6_copyFrom 29 = .ok (.bastore, 1) := by decide +kernel
theorem dX6_copyFrom_30 : decode cX6_copyFrom 30 = .ok (.aload_n 0, 1) := by decide +kernel
theorem dX6_copyFrom_31 : decode cX6_copyFrom 31 = .ok (.getfield 22, 3) := by decide +kernel
theorem dX6_copyFrom_34 : decode cX6_copyFrom 34 = .ok (.iload_n 2, 1) := by decide +kernel
theorem dX6_copyFrom_35 : decode cX6_copyFrom 35 = .ok (.baload, 1) := by decide +kernel
theorem dX6_copyFrom_36 : decode cX6_copyFrom 36 = .ok (.ifCond .eq 18, 3) := by decide +kernel
theorem dX6_copyFrom_39 : decode cX6_copyFrom 39 = .ok (.aload_n 0, 1) := by decide +kernel
theorem dX6_copyFrom_40 : decode cX6_copyFrom 40 = .ok (.getfield 18, 3) := by decide +kernel
theorem dX6_copyFrom_43 : decode cX6_copyFrom 43 = .ok (.iload_n 2, 1) := by decide +kernel
theorem dX6_copyFrom_44 : decode cX6_copyFrom 44 = .ok (.aaload, 1) := by decide +kernel
theorem dX6_copyFrom_45 : decode cX6_copyFrom 45 = .ok (.aload_n 1, 1) := by decide +kernel
theorem dX6_copyFrom_46 : decode cX6_copyFrom 46 = .ok (.getfield 18, 3) := by decide +kernel
theorem dX6_copyFrom_49 : decode cX6_copyFrom 49 = .ok (.iload_n 2, 1) := by decide +kernel
theorem dX6_copyFrom_50 : decode cX6_copyFrom 50 = .ok (.aaload, 1) := by decide +kernel
theorem dX6_copyFrom_51 : decode cX6_copyFrom 51 = .ok (.invokevirtual 26, 3) := by decide +kernel
theorem dX6_copyFrom_54 : decode cX6_copyFrom 54 = .ok (.iinc 2 1, 3) := by decide +kernel
theorem dX6_copyFrom_57 : decode cX6_copyFrom 57 = .ok (.goto (-44), 3) := by decide +kernel
theorem dX6_copyFrom_60 : decode cX6_copyFrom 60 = .ok (.return_, 1) := by decide +kernel
theorem dX6_fillSlot_0 : decode cX6_fillSlot 0 = .ok (.aload_n 0, 1) := by decide +kernel
theorem dX6_fillSlot_1 : decode cX6_fillSlot 1 = .ok (.getfield 18, 3) := by decide +kernel
theorem dX6_fillSlot_4 : decode cX6_fillSlot 4 = .ok (.iload_n 1, 1) := by decide +kernel
theorem dX6_fillSlot_5 : decode cX6_fillSlot 5 = .ok (.aaload, 1) := by decide +kernel
theorem dX6_fillSlot_6 : decode cX6_fillSlot 6 = .ok (.aload_n 0, 1) := by decide +kernel
theorem dX6_fillSlot_7 : decode cX6_fillSlot 7 = .ok (.getfield 12, 3) := by decide +kernel
theorem dX6_fillSlot_10 : decode cX6_fillSlot 10 = .ok (.invokevirtual 26, 3) := by decide +kernel
theorem dX6_fillSlot_13 : decode cX6_fillSlot 13 = .ok (.aload_n 0, 1) := by decide +kernel
theorem dX6_fillSlot_14 : decode cX6_fillSlot 14 = .ok (.getfield 22, 3) := by decide +kernel
theorem dX6_fillSlot_17 : decode cX6_fillSlot 17 = .ok (.iload_n 1, 1) := by decide +kernel
theorem dX6_fillSlot_18 : decode cX6_fillSlot 18 = .ok (.iconst 1, 1) := by decide +kernel
theorem dX6_fillSlot_19 : decode cX6_fillSlot 19 = .ok (.bastore, 1) := by decide +kernel
theorem dX6_fillSlot_20 : decode cX6_fillSlot 20 = .ok (.return_, 1) := by decide +kernel
theorem dX6_numberOfSnapshots_0 : decode cX6_numberOfSnapshots 0 = .ok (.iconst 0, 1) := by decide +kernel
theorem dX6_numberOfSnapshots_1 : decode cX6_numberOfSnapshots 1 = .ok (.istore_n 1, 1) := by decide +kernel
theorem dX6_numberOfSnapshots_2 : decode cX6_numberOfSnapshots 2 = .ok (.iconst 0, 1) := by decide +kernel
theorem dX6_numberOfSnapshots_3 : decode cX6_numberOfSnapshots 3 = .ok (.istore_n 2, 1) := by decide +kernel
theorem dX6_numberOfSnapshots_4 : decode cX6_numberOfSnapshots 4 = .ok (.iload_n 2, 1) := by decide +kernel
theorem dX6_numberOfSnapshots_5 : decode cX6_numberOfSnapshots 5 = .ok (.iconst 2, 1) := by decide +kernel
theorem dX6_numberOfSnapshots_6 : decode cX6_numberOfSnapshots 6 = .ok (.if_icmp .ge 21, 3) := by decide +kernel
theorem dX6_numberOfSnapshots_9 : decode cX6_numberOfSnapshots 9 = .ok (.aload_n 0, 1) := by decide +kernel
theorem dX6_numberOfSnapshots_10 : decode cX6_numberOfSnapshots 10 = .ok (.getfield 22, 3) := by decide +kernel
theorem dX6_numberOfSnapshots_13 : decode cX6_numberOfSnapshots 13 = .ok (.iload_n 2, 1) := by decide +kernel
theorem dX6_numberOfSnapshots_14 : decode cX6_numberOfSnapshots 14 = .ok (.baload, 1) := by decide +kernel
theorem dX6_numberOfSnapshots_15 : decode cX6_numberOfSnapshots 15 = .ok (.ifCond .eq 6, 3) := by decide +kernel
theorem dX6_numberOfSnapshots_18 : decode cX6_numberOfSnapshots 18 = .ok (.iinc 1 1, 3) := by decide +kernel
theorem dX6_numberOfSnapshots_21 : decode cX6_numberOfSnapshots 21 = .ok (.iinc 2 1, 3) := by decide +kernel
theorem dX6_numberOfSnapshots_24 : decode cX6_numberOfSnapshots 24 = .ok (.goto (-20), 3) := by decide +kernel
theorem dX6_numberOfSnapshots_27 : decode cX6_numberOfSnapshots 27 = .ok (.iload_n 1, 1) := by decide +kernel
theorem dX6_numberOfSnapshots_28 : decode cX6_numberOfSnapshots 28 = .ok (.ireturn, 1) := by decide +kernel
theorem dX7_init_0 : decode cX7_init 0 = .ok (.aload_n 0, 1) := by decide +kernel
theorem dX7_init_1 : decode cX7_init 1 = .ok (.invokespecial 3, 3) := by decide +kernel
theorem dX7_init_4 : decode cX7_init 4 = .ok (.aload_n 0, 1) := by decide +kernel
theorem dX7_init_5 : decode cX7_init 5 = .ok (.bipush 80, 2) := by decide +kernel
theorem dX7_init_7 : decode cX7_init 7 = .ok (.newarray .char, 2) := by decide +kernel
theorem dX7_init_9 : decode cX7_init 9 = .ok (.putfield 9, 3) := by decide +kernel
theorem dX7_init_12 : decode cX7_init 12 = .ok (.aload_n 0, 1) := by decide +kernel
theorem dX7_init_13 : decode cX7_init 13 = .ok (.iconst 0, 1) := by decide +kernel
theorem dX7_init_14 : decode cX7_init 14 = .ok (.putfield 15, 3) := by decide +kernel
theorem dX7_init_17 : decode cX7_init 17 = .ok (.return_, 1) := by decide +kernel
theorem dX7_addSign_0 : decode cX7_addSign 0 = .ok (.aload_n 0, 1) := by decide +kernel
theorem dX7_addSign_1 : decode cX7_addSign 1 = .ok (.getfield 15, 3) := by decide +kernel
theorem dX7_addSign_4 : decode cX7_addSign 4 = .ok (.bipush 80, 2) := by decide +kernel
theorem dX7_addSign_6 : decode cX7_addSign 6 = .ok (.if_icmp .ge 23, 3) := by decide +kernel
theorem dX7_addSign_9 : decode cX7_addSign 9 = .ok (.aload_n 0, 1) := by decide +kernel
theorem dX7_addSign_10 : decode cX7_addSign 10 = .ok (.getfield 9, 3) := by decide +kernel
theorem dX7_addSign_13 : decode cX7_addSign 13 = .ok (.aload_n 0, 1) := by decide +kernel
theorem dX7_addSign_14 : decode cX7_addSign 14 = .ok (.getfield 15, 3) := by decide +kernel
theorem dX7_addSign_17 : decode cX7_addSign 17 = .ok (.iload_n 1, 1) := by decide +kernel
theorem dX7_addSign_18 : decode cX7_addSign 18 = .ok (.castore, 1) := by decide +kernel
theorem dX7_addSign_19 : decode cX7_addSign 19 = .ok (.aload_n 0, 1) := by decide +kernel
theorem dX7_addSign_20 : decode cX7_addSign 20 = .ok (.dup, 1) := by decide +kernel
theorem dX7_addSign_21 : decode cX7_addSign 21 = .ok (.getfield 15, 3) := by decide +kernel
theorem dX7_addSign_24 : decode cX7_addSign 24 = .ok (.iconst 1, 1) := by decide +kernel
theorem dX7_addSign_25 : decode cX7_addSign 25 = .ok (.iadd, 1) := by decide +kernel
theorem dX7_addSign_26 : decode cX7_addSign 26 = .ok (.putfield 15, 3) := by decide +kernel
theorem dX7_addSign_29 : decode cX7_addSign 29 = .ok (.return_, 1) := by decide +kernel
theorem dX7_signAt_0 : decode cX7_signAt 0 = .ok (.iload_n 1, 1) := by decide +kernel
theorem dX7_signAt_1 : decode cX7_signAt 1 = .ok (.ifCond .lt 20, 3) := by decide +kernel
theorem dX7_signAt_4 : decode cX7_signAt 4 = .ok (.iload_n 1, 1) := by decide +kernel
theorem dX7_signAt_5 : decode cX7_signAt 5 = .ok (.aload_n 0, 1) := by decide +kernel
theorem dX7_signAt_6 : decode cX7_signAt 6 = .ok (.getfield 15, 3) := by decide +kernel
theorem dX7_signAt_9 : decode cX7_signAt 9 = .ok (.if_icmp .ge 12, 3) := by decide +kernel
theorem dX7_signAt_12 : decode cX7_signAt 12 = .ok (.aload_n 0, 1) := by decide +kernel
theorem dX7_signAt_13 : decode cX7_signAt 13 = .ok (.getfield 9, 3) := by decide +kernel
theorem dX7_signAt_16 : decode cX7_signAt 16 = .ok (.iload_n 1, 1) := by decide +kernel
theorem dX7_signAt_17 : decode cX7_signAt 17 = .ok (.caload, 1) := by decide +kernel
theorem dX7_signAt_18 : decode cX7_signAt 18 = .ok (.goto 4, 3) := by decide +kernel
theorem dX7_signAt_21 : decode cX7_signAt 21 = .ok (.iconst 0, 1) := by decide +kernel
theorem dX7_signAt_22 : decode cX7_signAt 22 = .ok (.ireturn, 1) := by decide +kernel
theorem dX8_init_0 : decode cX8_init 0 = .ok (.aload_n 0, 1) := by decide +kernel
theorem dX8_init_1 : decode cX8_init 1 = .ok (.invokespecial 1, 3) := by decide +kernel
theorem dX8_init_4 : decode cX8_init 4 = .ok (.aload_n 0, 1) := by decide +kernel
theorem dX8_init_5 : decode cX8_init 5 = .ok (.new 7, 3) := by decide +kernel
theorem dX8_init_8 : decode cX8_init 8 = .ok (.dup, 1) := by decide +kernel
theorem dX8_init_9 : decode cX8_init 9 = .ok (.invokespecial 9, 3) := by decide +kernel
theorem dX8_init_12 : decode cX8_init 12 = .ok (.putfield 10, 3) := by decide +kernel
theorem dX8_init_15 : decode cX8_init 15 = .ok (.aload_n 0, 1) := by decide +kernel
theorem dX8_init_16 : decode cX8_init 16 = .ok (.aload_n 0, 1) := by decide +kernel
theorem dX8_init_17 : decode cX8_init 17 = .ok (.getfield 10, 3) := by decide +kernel
theorem dX8_init_20 : decode cX8_init 20 = .ok (.getfield 16, 3) := by decide +kernel
theorem dX8_init_23 : decode cX8_init 23 = .ok (.putfield 20, 3) := by decide +kernel
theorem dX8_init_26 : decode cX8_init 26 = .ok (.aload_n 0, 1) := by decide +kernel
theorem dX8_init_27 : decode cX8_init 27 = .ok (.new 21, 3) := by decide +kernel
theorem dX8_init_30 : decode cX8_init 30 = .ok (.dup, 1) := by decide +kernel
theorem dX8_init_31 : decode cX8_init 31 = .ok (.invokespecial 23, 3) := by decide +kernel
theorem dX8_init_34 : decode cX8_init 34 = .ok (.putfield 24, 3) := by decide +kernel
theorem dX8_init_37 : decode cX8_init 37 = .ok (.aload_n 0, 1) := by decide +kernel
theorem dX8_init_38 : decode cX8_init 38 = .ok (.new 28, 3) := by decide +kernel
theorem dX8_init_41 : decode cX8_init 41 = .ok (.dup, 1) := by decide +kernel
theorem dX8_init_42 : decode cX8_init 42 = .ok (.invokespecial 30, 3) := by decide +kernel
theorem dX8_init_45 : decode cX8_init 45 = .ok (.putfield 31, 3) := by decide +kernel
theorem dX8_init_48 : decode cX8_init 48 = .ok (.aload_n 0, 1) := by decide +kernel
theorem dX8_init_49 : decode cX8_init 49 = .ok (.new 35, 3) := by decide +kernel
theorem dX8_init_52 : decode cX8_init 52 = .ok (.dup, 1) := by decide +kernel
theorem dX8_init_53 : decode cX8_init 53 = .ok (.invokespecial 37, 3) := by decide +kernel
theorem dX8_init_56 : decode cX8_init 56 = .ok (.putfield 38, 3) := by decide +kernel
theorem dX8_init_59 : decode cX8_init 59 = .ok (.aload_n 0, 1) := by decide +kernel
theorem dX8_init_60 : decode cX8_init 60 = .ok (.new 42, 3) := by decide +kernel
theorem dX8_init_63 : decode cX8_init 63 = .ok (.dup, 1) := by decide +kernel
theorem dX8_init_64 : decode cX8_init 64 = .ok (.invokespecial 44, 3) := by decide +kernel
theorem dX8_init_67 : decode cX8_init 67 = .ok (.putfield 45, 3) := by decide +kernel
theorem dX8_init_70 : decode cX8_init 70 = .ok (.return_, 1) := by decide +kernel
theorem dX8_lay_0 : decode cX8_lay 0 = .ok (.aload_n 0, 1) := by decide +kernel
theorem dX8_lay_1 : decode cX8_lay 1 = .ok (.iload_n 1, 1) := by decide +kernel
theorem dX8_lay_2 : decode cX8_lay 2 = .ok (.iload_n 2, 1) := by decide +kernel
theorem dX8_lay_3 : decode cX8_lay 3 = .ok (.invokevirtual 49, 3) := by decide +kernel
theorem dX8_lay_6 : decode cX8_lay 6 = .ok (.ifCond .eq 13, 3) := by decide +kernel
theorem dX8_lay_9 : decode cX8_lay 9 = .ok (.iload_n 3, 1) := by decide +kernel
theorem dX8_lay_10 : decode cX8_lay 10 = .ok (.iconst 1, 1) := by decide +kernel
theorem dX8_lay_11 : decode cX8_lay 11 = .ok (.bipush 30, 2) := by decide +kernel
theorem dX8_lay_13 : decode cX8_lay 13 = .ok (.invokestatic 53, 3) := by decide +kernel
theorem dX8_lay_16 : decode cX8_lay 16 = .ok (.ifCond .ne 5, 3) := by decide +kernel
theorem dX8_lay_19 : decode cX8_lay 19 = .ok (.iconst (-1), 1) := by decide +kernel
theorem dX8_lay_20 : decode cX8_lay 20 = .ok (.ireturn, 1) := by decide +kernel
theorem dX8_lay_21 : decode cX8_lay 21 = .ok (.aload_n 0, 1) := by decide +kernel
theorem dX8_lay_22 : decode cX8_lay 22 = .ok (.getfield 20, 3) := by decide +kernel
theorem dX8_lay_25 : decode cX8_lay 25 = .ok (.aload_n 0, 1) := by decide +kernel
theorem dX8_lay_26 : decode cX8_lay 26 = .ok (.getfield 20, 3) := by decide +kernel
theorem dX8_lay_29 : decode cX8_lay 29 = .ok (.getfield 57, 3) := by decide +kernel
theorem dX8_lay_32 : decode cX8_lay 32 = .ok (.invokevirtual 63, 3) := by decide +kernel
theorem dX8_lay_35 : decode cX8_lay 35 = .ok (.ifCond .ne 15, 3) := by decide +kernel
theorem dX8_lay_38 : decode cX8_lay 38 = .ok (.aload_n 0, 1) := by decide +kernel
theorem dX8_lay_39 : decode cX8_lay 39 = .ok (.getfield 20, 3) := by decide +kernel
theorem dX8_lay_42 : decode cX8_lay 42 = .ok (.iload_n 1, 1) := by decide +kernel
theorem dX8_lay_43 : decode cX8_lay 43 = .ok (.iload_n 2, 1) := by decide +kernel
theorem dX8_lay_44 : decode cX8_lay 44 = .ok (.invokevirtual 67, 3) := by decide +kernel
theorem dX8_lay_47 : decode cX8_lay 47 = .ok (.ifCond .ne 6, 3) := by decide +kernel
theorem dX8_lay_50 : decode cX8_lay 50 = .ok (.bipush (-2), 2) := by decide +kernel
theorem dX8_lay_52 : decode cX8_lay 52 = .ok (.ireturn, 1) := by decide +kernel
theorem dX8_lay_53 : decode cX8_lay 53 = .ok (.aload_n 0, 1) := by decide +kernel
theorem dX8_lay_54 : decode cX8_lay 54 = .ok (.getfield 24, 3) := by decide +kernel
theorem dX8_lay_57 : decode cX8_lay 57 = .ok (.aload_n 0, 1) := by decide +kernel
theorem dX8_lay_58 : decode cX8_lay 58 = .ok (.getfield 10, 3) := by decide +kernel
theorem dX8_lay_61 : decode cX8_lay 61 = .ok (.invokevirtual 70, 3) := by decide +kernel
theorem dX8_lay_64 : decode cX8_lay 64 = .ok (.iconst 0, 1) := by decide +kernel
theorem dX8_lay_65 : decode cX8_lay 65 = .ok (.istore 4, 2) := by decide +kernel
theorem dX8_lay_67 : decode cX8_lay 67 = .ok (.iload 4, 2) := by decide +kernel
theorem dX8_lay_69 : decode cX8_lay 69 = .ok (.iload_n 3, 1) := by decide +kernel
theorem dX8_lay_70 : decode cX8_lay 70 = .ok (.if_icmp .ge 36, 3) := by decide +kernel
theorem dX8_lay_73 : decode cX8_lay 73 = .ok (.aload_n 0, 1) := by decide +kernel
theorem dX8_lay_74 : decode cX8_lay 74 = .ok (.getfield 20, 3) := by decide +kernel
theorem dX8_lay_77 : decode cX8_lay 77 = .ok (.iload_n 1, 1) := by decide +kernel
theorem dX8_lay_78 : decode cX8_lay 78 = .ok (.iload_n 2, 1) := by decide +kernel
theorem dX8_lay_79 : decode cX8_lay 79 = .ok (.iload 4, 2) := by decide +kernel
theorem dX8_lay_81 : decode cX8_lay 81 = .ok (.iadd, 1) := by decide +kernel
theorem dX8_lay_82 : decode cX8_lay 82 = .ok (.invokevirtual 67, 3) := by decide +kernel
theorem dX8_lay_85 : decode cX8_lay 85 = .ok (.ifCond .eq 21, 3) := by decide +kernel
theorem dX8_lay_88 : decode cX8_lay 88 = .ok (.aload_n 0, 1) := by decide +kernel
theorem dX8_lay_89 : decode cX8_lay 89 = .ok (.getfield 20, 3) := by decide +kernel
theorem dX8_lay_92 : decode cX8_lay 92 = .ok (.iload_n 1, 1) := by decide +kernel
theorem dX8_lay_93 : decode cX8_lay 93 = .ok (.iload_n 2, 1) := by decide +kernel
theorem dX8_lay_94 : decode cX8_lay 94 = .ok (.iload 4, 2) := by decide +kernel
theorem dX8_lay_96 : decode cX8_lay 96 = .ok (.iadd, 1) := by decide +kernel
theorem dX8_lay_97 : decode cX8_lay 97 = .ok (.invokevirtual 74, 3) := by decide +kernel
theorem dX8_lay_100 : decode cX8_lay 100 = .ok (.iinc 4 1, 3) := by decide +kernel
theorem dX8_lay_103 : decode cX8_lay 103 = .ok (.goto (-36), 3) := by decide +kernel
theorem dX8_lay_106 : decode cX8_lay 106 = .ok (.iload 4, 2) := by decide +kernel
theorem dX8_lay_108 : decode cX8_lay 108 = .ok (.ireturn, 1) := by decide +kernel
theorem dX8_cut_0 : decode cX8_cut 0 = .ok (.aload_n 0, 1) := by decide +kernel
theorem dX8_cut_1 : decode cX8_cut 1 = .ok (.iload_n 1, 1) := by decide +kernel
theorem dX8_cut_2 : decode cX8_cut 2 = .ok (.iload_n 2, 1) := by decide +kernel
theorem dX8_cut_3 : decode cX8_cut 3 = .ok (.invokevirtual 49, 3) := by decide +kernel
theorem dX8_cut_6 : decode cX8_cut 6 = .ok (.ifCond .ne 5, 3) := by decide +kernel
theorem dX8_cut_9 : decode cX8_cut 9 = .ok (.iconst (-1), 1) := by decide +kernel
theorem dX8_cut_10 : decode cX8_cut 10 = .ok (.ireturn, 1) := by decide +kernel
theorem dX8_cut_11 : decode cX8_cut 11 = .ok (.aload_n 0, 1) := by decide +kernel
theorem dX8_cut_12 : decode cX8_cut 12 = .ok (.getfield 20, 3) := by decide +kernel
theorem dX8_cut_15 : decode cX8_cut 15 = .ok (.aload_n 0, 1) := by decide +kernel
theorem dX8_cut_16 : decode cX8_cut 16 = .ok (.getfield 20, 3) := by decide +kernel
theorem dX8_cut_19 : decode cX8_cut 19 = .ok (.getfield 57, 3) := by decide +kernel
theorem dX8_cut_22 : decode cX8_cut 22 = .ok (.invokevirtual 63, 3) := by decide +kernel
theorem dX8_cut_25 : decode cX8_cut 25 = .ok (.ifCond .ne 15, 3) := by decide +kernel
theorem dX8_cut_28 : decode cX8_cut 28 = .ok (.aload_n 0, 1) := by decide +kernel
theorem dX8_cut_29 : decode cX8_cut 29 = .ok (.getfield 20, 3) := by decide +kernel
theorem dX8_cut_32 : decode cX8_cut 32 = .ok (.iload_n 1, 1) := by decide +kernel
theorem dX8_cut_33 : decode cX8_cut 33 = .ok (.iload_n 2, 1) := by decide +kernel
theorem dX8_cut_34 : decode cX8_cut 34 = .ok (.invokevirtual 78, 3) := by decide +kernel
theorem dX8_cut_37 : decode cX8_cut 37 = .ok (.ifCond .ne 6, 3) := by decide +kernel
theorem dX8_cut_40 : decode cX8_cut 40 = .ok (.bipush (-2), 2) := by decide +kernel
theorem dX8_cut_42 : decode cX8_cut 42 = .ok (.ireturn, 1) := by decide +kernel
theorem dX8_cut_43 : decode cX8_cut 43 = .ok (.aload_n 0, 1) := by decide +kernel
theorem dX8_cut_44 : decode cX8_cut 44 = .ok (.getfield 24, 3) := by decide +kernel
theorem dX8_cut_47 : decode cX8_cut 47 = .ok (.aload_n 0, 1) := by decide +kernel
theorem dX8_cut_48 : decode cX8_cut 48 = .ok (.getfield 10, 3) := by decide +kernel
theorem dX8_cut_51 : decode cX8_cut 51 = .ok (.invokevirtual 70, 3) := by decide +kernel
theorem dX8_cut_54 : decode cX8_cut 54 = .ok (.aload_n 0, 1) := by decide +kernel
theorem dX8_cut_55 : decode cX8_cut 55 = .ok (.getfield 20, 3) := by decide +kernel
theorem dX8_cut_58 : decode cX8_cut 58 = .ok (.iload_n 1, 1) := by decide +kernel
theorem dX8_cut_59 : decode cX8_cut 59 = .ok (.iload_n 2, 1) := by decide +kernel
theorem dX8_cut_60 : decode cX8_cut 60 = .ok (.invokevirtual 81, 3) := by decide +kernel
theorem dX8_cut_63 : decode cX8_cut 63 = .ok (.aload_n 0, 1) := by decide +kernel
theorem dX8_cut_64 : decode cX8_cut 64 = .ok (.getfield 20, 3) := by decide +kernel
theorem dX8_cut_67 : decode cX8_cut 67 = .ok (.getfield 84, 3) := by decide +kernel
theorem dX8_cut_70 : decode cX8_cut 70 = .ok (.ireturn, 1) := by decide +kernel
theorem dX8_plant_0 : decode cX8_plant 0 = .ok (.aload_n 0, 1) := by decide +kernel
theorem dX8_plant_1 : decode cX8_plant 1 = .ok (.iload_n 1, 1) := by decide +kernel
theorem dX8_plant_2 : decode cX8_plant 2 = .ok (.iload_n 2, 1) := by decide +kernel
theorem dX8_plant_3 : decode cX8_plant 3 = .ok (.invokevirtual 49, 3) := by decide +kernel
theorem dX8_plant_6 : decode cX8_plant 6 = .ok (.ifCond .ne 5, 3) := by decide +kernel
theorem dX8_plant_9 : decode cX8_plant 9 = .ok (.iconst (-1), 1) := by decide +kernel
theorem dX8_plant_10 : decode cX8_plant 10 = .ok (.ireturn, 1) := by decide +kernel
theorem dX8_plant_11 : decode cX8_plant 11 = .ok (.aload_n 0, 1) := by decide +kernel
theorem dX8_plant_12 : decode cX8_plant 12 = .ok (.getfield 20, 3) := by decide +kernel
theorem dX8_plant_15 : decode cX8_plant 15 = .ok (.iload_n 1, 1) := by decide +kernel
theorem dX8_plant_16 : decode cX8_plant 16 = .ok (.iload_n 2, 1) := by decide +kernel
theorem dX8_plant_17 : decode cX8_plant 17 = .ok (.invokevirtual 87, 3) := by decide +kernel
theorem dX8_plant_20 : decode cX8_plant 20 = .ok (.ifCond .ne 6, 3) := by decide +kernel
theorem dX8_plant_23 : decode cX8_plant 23 = .ok (.bipush (-2), 2) := by decide +kernel
theorem dX8_plant_25 : decode cX8_plant 25 = .ok (.ireturn, 1) := by decide +kernel
theorem dX8_plant_26 : decode cX8_plant 26 = .ok (.aload_n 0, 1) := by decide +kernel
theorem dX8_plant_27 : decode cX8_plant 27 = .ok (.getfield 24, 3) := by decide +kernel
theorem dX8_plant_30 : decode cX8_plant 30 = .ok (.aload_n 0, 1) := by decide +kernel
theorem dX8_plant_31 : decode cX8_plant 31 = .ok (.getfield 10, 3) := by decide +kernel
theorem dX8_plant_34 : decode cX8_plant 34 = .ok (.invokevirtual 70, 3) := by decide +kernel
theorem dX8_plant_37 : decode cX8_plant 37 = .ok (.aload_n 0, 1) := by decide +kernel
theorem dX8_plant_38 : decode cX8_plant 38 = .ok (.getfield 20, 3) := by decide +kernel
theorem dX8_plant_41 : decode cX8_plant 41 = .ok (.iload_n 1, 1) := by decide +kernel
theorem dX8_plant_42 : decode cX8_plant 42 = .ok (.iload_n 2, 1) := by decide +kernel
theorem dX8_plant_43 : decode cX8_plant 43 = .ok (.invokevirtual 90, 3) := by decide +kernel
theorem dX8_plant_46 : decode cX8_plant 46 = .ok (.aload_n 0, 1) := by decide +kernel
theorem dX8_plant_47 : decode cX8_plant 47 = .ok (.getfield 20, 3) := by decide +kernel
theorem dX8_plant_50 : decode cX8_plant 50 = .ok (.getfield 93, 3) := by decide +kernel
theorem dX8_plant_53 : decode cX8_plant 53 = .ok (.ireturn, 1) := by decide +kernel
theorem dX8_grub_0 : decode cX8_grub 0 = .ok (.aload_n 0, 1) := by decide +kernel
theorem dX8_grub_1 : decode cX8_grub 1 = .ok (.iload_n 1, 1) := by decide +kernel
theorem dX8_grub_2 : decode cX8_grub 2 = .ok (.iload_n 2, 1) := by decide +kernel
theorem dX8_grub_3 : decode cX8_grub 3 = .ok (.invokevirtual 49, 3) := by decide +kernel
theorem dX8_grub_6 : decode cX8_grub 6 = .ok (.ifCond .ne 5, 3) := by decide +kernel
theorem dX8_grub_9 : decode cX8_grub 9 = .ok (.iconst (-1), 1) := by decide +kernel
theorem dX8_grub_10 : decode cX8_grub 10 = .ok (.ireturn, 1) := by decide +kernel
theorem dX8_grub_11 : decode cX8_grub 11 = .ok (.aload_n 0, 1) := by decide +kernel
theorem dX8_grub_12 : decode cX8_grub 12 = .ok (.getfield 20, 3) := by decide +kernel
theorem dX8_grub_15 : decode cX8_grub 15 = .ok (.getfield 96, 3) := by decide +kernel
theorem dX8_grub_18 : decode cX8_grub 18 = .ok (.iload_n 1, 1) := by decide +kernel
theorem dX8_grub_19 : decode cX8_grub 19 = .ok (.aaload, 1) := by decide +kernel
theorem dX8_grub_20 : decode cX8_grub 20 = .ok (.iload_n 2, 1) := by decide +kernel
theorem dX8_grub_21 : decode cX8_grub 21 = .ok (.invokevirtual 100, 3) := by decide +kernel
theorem dX8_grub_24 : decode cX8_grub 24 = .ok (.istore_n 3, 1) := by decide +kernel
theorem dX8_grub_25 : decode cX8_grub 25 = .ok (.iload_n 3, 1) := by decide +kernel
theorem dX8_grub_26 : decode cX8_grub 26 = .ok (.iconst 2, 1) := by decide +kernel
theorem dX8_grub_27 : decode cX8_grub 27 = .ok (.if_icmp .ne 6, 3) := by decide +kernel
theorem dX8_grub_30 : decode cX8_grub 30 = .ok (.bipush (-2), 2) := by decide +kernel
theorem dX8_grub_32 : decode cX8_grub 32 = .ok (.ireturn, 1) := by decide +kernel
theorem dX8_grub_33 : decode cX8_grub 33 = .ok (.aload_n 0, 1) := by decide +kernel
theorem dX8_grub_34 : decode cX8_grub 34 = .ok (.getfield 24, 3) := by decide +kernel
theorem dX8_grub_37 : decode cX8_grub 37 = .ok (.aload_n 0, 1) := by decide +kernel
theorem dX8_grub_38 : decode cX8_grub 38 = .ok (.getfield 10, 3) := by decide +kernel
theorem dX8_grub_41 : decode cX8_grub 41 = .ok (.invokevirtual 70, 3) := by decide +kernel
theorem dX8_grub_44 : decode cX8_grub 44 = .ok (.aload_n 0, 1) := by decide +kernel
theorem dX8_grub_45 : decode cX8_grub 45 = .ok (.getfield 20, 3) := by decide +kernel
theorem dX8_grub_48 : decode cX8_grub 48 = .ok (.iload_n 1, 1) := by decide +kernel
theorem dX8_grub_49 : decode cX8_grub 49 = .ok (.iload_n 2, 1) := by decide +kernel
theorem dX8_grub_50 : decode cX8_grub 50 = .ok (.invokevirtual 106, 3) := by decide +kernel
theorem dX8_grub_53 : decode cX8_grub 53 = .ok (.iload_n 3, 1) := by decide +kernel
theorem dX8_grub_54 : decode cX8_grub 54 = .ok (.ireturn, 1) := by decide +kernel
theorem dX8_pass_0 : decode cX8_pass 0 = .ok (.iload_n 1, 1) := by decide +kernel
theorem dX8_pass_1 : decode cX8_pass 1 = .ok (.iconst 1, 1) := by decide +kernel
theorem dX8_pass_2 : decode cX8_pass 2 = .ok (.bipush 60, 2) := by decide +kernel
theorem dX8_pass_4 : decode cX8_pass 4 = .ok (.invokestatic 53, 3) := by decide +kernel
theorem dX8_pass_7 : decode cX8_pass 7 = .ok (.ifCond .ne 5, 3) := by decide +kernel
theorem dX8_pass_10 : decode cX8_pass 10 = .ok (.iconst (-1), 1) := by decide +kernel
theorem dX8_pass_11 : decode cX8_pass 11 = .ok (.ireturn, 1) := by decide +kernel
theorem dX8_pass_12 : decode cX8_pass 12 = .ok (.aload_n 0, 1) := by decide +kernel
theorem dX8_pass_13 : decode cX8_pass 13 = .ok (.getfield 20, 3) := by decide +kernel
theorem dX8_pass_16 : decode cX8_pass 16 = .ok (.getfield 57, 3) := by decide +kernel
theorem dX8_pass_19 : decode cX8_pass 19 = .ok (.iload_n 1, 1) := by decide +kernel
theorem dX8_pass_20 : decode cX8_pass 20 = .ok (.iadd, 1) := by decide +kernel
theorem dX8_pass_21 : decode cX8_pass 21 = .ok (.sipush 1000, 3) := by decide +kernel
theorem dX8_pass_24 : decode cX8_pass 24 = .ok (.if_icmp .le 6, 3) := by decide +kernel
theorem dX8_pass_27 : decode cX8_pass 27 = .ok (.bipush (-3), 2) := by decide +kernel
theorem dX8_pass_29 : decode cX8_pass 29 = .ok (.ireturn, 1) := by decide +kernel
theorem dX8_pass_30 : decode cX8_pass 30 = .ok (.aload_n 0, 1) := by decide +kernel
theorem dX8_pass_31 : decode cX8_pass 31 = .ok (.getfield 24, 3) := by decide +kernel
theorem dX8_pass_34 : decode cX8_pass 34 = .ok (.aload_n 0, 1) := by decide +kernel
theorem dX8_pass_35 : decode cX8_pass 35 = .ok (.getfield 10, 3) := by decide +kernel
theorem dX8_pass_38 : decode cX8_pass 38 = .ok (.invokevirtual 70, 3) := by decide +kernel
theorem dX8_pass_41 : decode cX8_pass 41 = .ok (.iconst 0, 1) := by decide +kernel
theorem dX8_pass_42 : decode cX8_pass 42 = .ok (.istore_n 2, 1) := by decide +kernel
theorem dX8_pass_43 : decode cX8_pass 43 = .ok (.iconst 0, 1) := by decide +kernel
theorem dX8_pass_44 : decode cX8_pass 44 = .ok (.istore_n 3, 1) := by decide +kernel
theorem dX8_pass_45 : decode cX8_pass 45 = .ok (.iload_n 3, 1) := by decide +kernel
theorem dX8_pass_46 : decode cX8_pass 46 = .ok (.iload_n 1, 1) := by decide +kernel
theorem dX8_pass_47 : decode cX8_pass 47 = .ok (.if_icmp .ge 19, 3) := by decide +kernel
theorem dX8_pass_50 : decode cX8_pass 50 = .ok (.iload_n 2, 1) := by decide +kernel
theorem dX8_pass_51 : decode cX8_pass 51 = .ok (.aload_n 0, 1) := by decide +kernel
theorem dX8_pass_52 : decode cX8_pass 52 = .ok (.getfield 20, 3) := by decide +kernel
theorem dX8_pass_55 : decode cX8_pass 55 = .ok (.invokevirtual 109, 3) := by decide +kernel
theorem dX8_pass_58 : decode cX8_pass 58 = .ok (.iadd, 1) := by decide +kernel
theorem dX8_pass_59 : decode cX8_pass 59 = .ok (.istore_n 2, 1) := by decide +kernel
theorem dX8_pass_60 : decode cX8_pass 60 = .ok (.iinc 3 1, 3) := by decide +kernel
theorem dX8_pass_63 : decode cX8_pass 63 = .ok (.goto (-18), 3) := by decide +kernel
theorem dX8_pass_66 : decode cX8_pass 66 = .ok (.iload_n 2, 1) := by decide +kernel
theorem dX8_pass_67 : decode cX8_pass 67 = .ok (.ireturn, 1) := by decide +kernel
theorem dX8_set_0 : decode cX8_set 0 = .ok (.iload_n 1, 1) := by decide +kernel
theorem dX8_set_1 : decode cX8_set 1 = .ok (.iload_n 2, 1) := by decide +kernel
theorem dX8_set_2 : decode cX8_set 2 = .ok (.invokestatic 113, 3) := by decide +kernel
theorem dX8_set_5 : decode cX8_set 5 = .ok (.ifCond .ne 5, 3) := by decide +kernel
theorem dX8_set_8 : decode cX8_set 8 = .ok (.iconst (-1), 1) := by decide +kernel
theorem dX8_set_9 : decode cX8_set 9 = .ok (.ireturn, 1) := by decide +kernel
theorem dX8_set_10 : decode cX8_set 10 = .ok (.aload_n 0, 1) := by decide +kernel
theorem dX8_set_11 : decode cX8_set 11 = .ok (.getfield 24, 3) := by decide +kernel
theorem dX8_set_14 : decode cX8_set 14 = .ok (.aload_n 0, 1) := by decide +kernel
theorem dX8_set_15 : decode cX8_set 15 = .ok (.getfield 10, 3) := by decide +kernel
theorem dX8_set_18 : decode cX8_set 18 = .ok (.invokevirtual 70, 3) := by decide +kernel
theorem dX8_set_21 : decode cX8_set 21 = .ok (.aload_n 0, 1) := by decide +kernel
theorem dX8_set_22 : decode cX8_set 22 = .ok (.getfield 20, 3) := by decide +kernel
theorem dX8_set_25 : decode cX8_set 25 = .ok (.iload_n 1, 1) := by decide +kernel
theorem dX8_set_26 : decode cX8_set 26 = .ok (.invokevirtual 116, 3) := by decide +kernel
theorem dX8_set_29 : decode cX8_set 29 = .ok (.istore_n 3, 1) := by decide +kernel
theorem dX8_set_30 : decode cX8_set 30 = .ok (.aload_n 0, 1) := by decide +kernel
theorem dX8_set_31 : decode cX8_set 31 = .ok (.getfield 20, 3) := by decide +kernel
theorem dX8_set_34 : decode cX8_set 34 = .ok (.iload_n 1, 1) := by decide +kernel
theorem dX8_set_35 : decode cX8_set 35 = .ok (.iload_n 2, 1) := by decide +kernel
theorem dX8_set_36 : decode cX8_set 36 = .ok (.invokevirtual 119, 3) := by decide +kernel
theorem dX8_set_39 : decode cX8_set 39 = .ok (.iload_n 3, 1) := by decide +kernel
theorem dX8_set_40 : decode cX8_set 40 = .ok (.ireturn, 1) := by decide +kernel
theorem dX8_contract_0 : decode cX8_contract 0 = .ok (.iload_n 1, 1) := by decide +kernel
theorem dX8_contract_1 : decode cX8_contract 1 = .ok (.invokestatic 122, 3) := by decide +kernel
theorem dX8_contract_4 : decode cX8_contract 4 = .ok (.ifCond .eq 34, 3) := by decide +kernel
theorem dX8_contract_7 : decode cX8_contract 7 = .ok (.iload_n 2, 1) := by decide +kernel
theorem dX8_contract_8 : decode cX8_contract 8 = .ok (.iconst 0, 1) := by decide +kernel
theorem dX8_contract_9 : decode cX8_contract 9 = .ok (.bipush 20, 2) := by decide +kernel
theorem dX8_contract_11 : decode cX8_contract 11 = .ok (.invokestatic 53, 3) := by decide +kernel
theorem dX8_contract_14 : decode cX8_contract 14 = .ok (.ifCond .eq 24, 3) := by decide +kernel
theorem dX8_contract_17 : decode cX8_contract 17 = .ok (.iload_n 3, 1) := by decide +kernel
theorem dX8_contract_18 : decode cX8_contract 18 = .ok (.iconst 0, 1) := by decide +kernel
theorem dX8_contract_19 : decode cX8_contract 19 = .ok (.bipush 100, 2) := by decide +kernel
theorem dX8_contract_21 : decode cX8_contract 21 = .ok (.invokestatic 53, 3) := by decide +kernel
theorem dX8_contract_24 : decode cX8_contract 24 = .ok (.ifCond .eq 14, 3) := by decide +kernel
theorem dX8_contract_27 : decode cX8_contract 27 = .ok (.iload 4, 2) := by decide +kernel
theorem dX8_contract_29 : decode cX8_contract 29 = .ok (.iconst 0, 1) := by decide +kernel
theorem dX8_contract_30 : decode cX8_contract 30 = .ok (.bipush 9, 2) := by decide +kernel
theorem dX8_contract_32 : decode cX8_contract 32 = .ok (.invokestatic 53, 3) := by decide +kernel
theorem dX8_contract_35 : decode cX8_contract 35 = .ok (.ifCond .ne 5, 3) := by decide +kernel
theorem dX8_contract_38 : decode cX8_contract 38 = .ok (.iconst (-1), 1) := by decide +kernel
theorem dX8_contract_39 : decode cX8_contract 39 = .ok (.ireturn, 1) := by decide +kernel
theorem dX8_contract_40 : decode cX8_contract 40 = .ok (.aload_n 0, 1) := by decide +kernel
theorem dX8_contract_41 : decode cX8_contract 41 = .ok (.getfield 20, 3) := by decide +kernel
theorem dX8_contract_44 : decode cX8_contract 44 = .ok (.getfield 96, 3) := by decide +kernel
theorem dX8_contract_47 : decode cX8_contract 47 = .ok (.iload_n 1, 1) := by decide +kernel
theorem dX8_contract_48 : decode cX8_contract 48 = .ok (.aaload, 1) := by decide +kernel
theorem dX8_contract_49 : decode cX8_contract 49 = .ok (.iconst 0, 1) := by decide +kernel
theorem dX8_contract_50 : decode cX8_contract 50 = .ok (.invokevirtual 125, 3) := by decide +kernel
theorem dX8_contract_53 : decode cX8_contract 53 = .ok (.istore 5, 2) := by decide +kernel
theorem dX8_contract_55 : decode cX8_contract 55 = .ok (.aload_n 0, 1) := by decide +kernel
theorem dX8_contract_56 : decode cX8_contract 56 = .ok (.getfield 20, 3) := by decide +kernel
theorem dX8_contract_59 : decode cX8_contract 59 = .ok (.getfield 128, 3) := by decide +kernel
theorem dX8_contract_62 : decode cX8_contract 62 = .ok (.iload_n 1, 1) := by decide +kernel
theorem dX8_contract_63 : decode cX8_contract 63 = .ok (.aaload, 1) := by decide +kernel
theorem dX8_contract_64 : decode cX8_contract 64 = .ok (.getfield 132, 3) := by decide +kernel
theorem dX8_contract_67 : decode cX8_contract 67 = .ok (.ifCond .ne 8, 3) := by decide +kernel
theorem dX8_contract_70 : decode cX8_contract 70 = .ok (.iload 5, 2) := by decide +kernel
theorem dX8_contract_72 : decode cX8_contract 72 = .ok (.ifCond .ne 6, 3) := by decide +kernel
theorem dX8_contract_75 : decode cX8_contract 75 = .ok (.bipush (-2), 2) := by decide +kernel
theorem dX8_contract_77 : decode cX8_contract 77 = .ok (.ireturn, 1) := by decide +kernel
theorem dX8_contract_78 : decode cX8_contract 78 = .ok (.aload_n 0, 1) := by decide +kernel
theorem dX8_contract_79 : decode cX8_contract 79 = .ok (.getfield 24, 3) := by decide +kernel
theorem dX8_contract_82 : decode cX8_contract 82 = .ok (.aload_n 0, 1) := by decide +kernel
theorem dX8_contract_83 : decode cX8_contract 83 = .ok (.getfield 10, 3) := by decide +kernel
theorem dX8_contract_86 : decode cX8_contract 86 = .ok (.invokevirtual 70, 3) := by decide +kernel
theorem dX8_contract_89 : decode cX8_contract 89 = .ok (.aload_n 0, 1) := by decide +kernel
theorem dX8_contract_90 : decode cX8_contract 90 = .ok (.getfield 20, 3) := by decide +kernel
theorem dX8_contract_93 : decode cX8_contract 93 = .ok (.getfield 128, 3) := by decide +kernel
theorem dX8_contract_96 : decode cX8_contract 96 = .ok (.iload_n 1, 1) := by decide +kernel
theorem dX8_contract_97 : decode cX8_contract 97 = .ok (.aaload, 1) := by decide +kernel
theorem dX8_contract_98 : decode cX8_contract 98 = .ok (.iload_n 2, 1) := by decide +kernel
theorem dX8_contract_99 : decode cX8_contract 99 = .ok (.aload_n 0, 1) := by decide +kernel
theorem dX8_contract_100 : decode cX8_contract 100 = .ok (.getfield 20, 3) := by decide +kernel
theorem dX8_contract_103 : decode cX8_contract 103 = .ok (.getfield 57, 3) := by decide +kernel
theorem dX8_contract_106 : decode cX8_contract 106 = .ok (.iload_n 3, 1) := by decide +kernel
theorem dX8_contract_107 : decode cX8_contract 107 = .ok (.iadd, 1) := by decide +kernel
theorem dX8_contract_108 : decode cX8_contract 108 = .ok (.iload 4, 2) := by decide +kernel
theorem dX8_contract_110 : decode cX8_contract 110 = .ok (.invokevirtual 138, 3) := by decide +kernel
theorem dX8_contract_113 : decode cX8_contract 113 = .ok (.iload 5, 2) := by decide +kernel
theorem dX8_contract_115 : decode cX8_contract 115 = .ok (.ireturn, 1) := by decide +kernel
theorem dX8_giveBack_0 : decode cX8_giveBack 0 = .ok (.iload_n 1, 1) := by decide +kernel
theorem dX8_giveBack_1 : decode cX8_giveBack 1 = .ok (.invokestatic 122, 3) := by decide +kernel
theorem dX8_giveBack_4 : decode cX8_giveBack 4 = .ok (.ifCond .ne 5, 3) := by decide +kernel
theorem dX8_giveBack_7 : decode cX8_giveBack 7 = .ok (.iconst (-1), 1) := by decide +kernel
theorem dX8_giveBack_8 : decode cX8_giveBack 8 = .ok (.ireturn, 1) := by decide +kernel
theorem dX8_giveBack_9 : decode cX8_giveBack 9 = .ok (.aload_n 0, 1) := by decide +kernel
theorem dX8_giveBack_10 : decode cX8_giveBack 10 = .ok (.getfield 20, 3) := by decide +kernel
theorem dX8_giveBack_13 : decode cX8_giveBack 13 = .ok (.getfield 128, 3) := by decide +kernel
theorem dX8_giveBack_16 : decode cX8_giveBack 16 = .ok (.iload_n 1, 1) := by decide +kernel
theorem dX8_giveBack_17 : decode cX8_giveBack 17 = .ok (.aaload, 1) := by decide +kernel
theorem dX8_giveBack_18 : decode cX8_giveBack 18 = .ok (.astore_n 2, 1) := by decide +kernel
theorem dX8_giveBack_19 : decode cX8_giveBack 19 = .ok (.aload_n 2, 1) := by decide +kernel
theorem dX8_giveBack_20 : decode cX8_giveBack 20 = .ok (.getfield 132, 3) := by decide +kernel
theorem dX8_giveBack_23 : decode cX8_giveBack 23 = .ok (.ifCond .ne 6, 3) := by decide +kernel
theorem dX8_giveBack_26 : decode cX8_giveBack 26 = .ok (.bipush (-2), 2) := by decide +kernel
theorem dX8_giveBack_28 : decode cX8_giveBack 28 = .ok (.ireturn, 1) := by decide +kernel
theorem dX8_giveBack_29 : decode cX8_giveBack 29 = .ok (.aload_n 0, 1) := by decide +kernel
theorem dX8_giveBack_30 : decode cX8_giveBack 30 = .ok (.getfield 24, 3) := by decide +kernel
theorem dX8_giveBack_33 : decode cX8_giveBack 33 = .ok (.aload_n 0, 1) := by decide +kernel
theorem dX8_giveBack_34 : decode cX8_giveBack 34 = .ok (.getfield 10, 3) := by decide +kernel
theorem dX8_giveBack_37 : decode cX8_giveBack 37 = .ok (.invokevirtual 70, 3) := by decide +kernel
theorem dX8_giveBack_40 : decode cX8_giveBack 40 = .ok (.iconst 5, 1) := by decide +kernel
theorem dX8_giveBack_41 : decode cX8_giveBack 41 = .ok (.aload_n 2, 1) := by decide +kernel
theorem dX8_giveBack_42 : decode cX8_giveBack 42 = .ok (.getfield 142, 3) := by decide +kernel
theorem dX8_giveBack_45 : decode cX8_giveBack 45 = .ok (.imul, 1) := by decide +kernel
theorem dX8_giveBack_46 : decode cX8_giveBack 46 = .ok (.istore_n 3, 1) := by decide +kernel
theorem dX8_giveBack_47 : decode cX8_giveBack 47 = .ok (.aload_n 0, 1) := by decide +kernel
theorem dX8_giveBack_48 : decode cX8_giveBack 48 = .ok (.getfield 20, 3) := by decide +kernel
theorem dX8_giveBack_51 : decode cX8_giveBack 51 = .ok (.iload_n 3, 1) := by decide +kernel
theorem dX8_giveBack_52 : decode cX8_giveBack 52 = .ok (.invokevirtual 145, 3) := by decide +kernel
theorem dX8_giveBack_55 : decode cX8_giveBack 55 = .ok (.aload_n 2, 1) := by decide +kernel
theorem dX8_giveBack_56 : decode cX8_giveBack 56 = .ok (.iconst 0, 1) := by decide +kernel
theorem dX8_giveBack_57 : decode cX8_giveBack 57 = .ok (.putfield 132, 3) := by decide +kernel
theorem dX8_giveBack_60 : decode cX8_giveBack 60 = .ok (.iload_n 3, 1) := by decide +kernel
theorem dX8_giveBack_61 : decode cX8_giveBack 61 = .ok (.ireturn, 1) := by decide +kernel
theorem dX8_payDebt_0 : decode cX8_payDebt 0 = .ok (.aload_n 0, 1) := by decide +kernel
theorem dX8_payDebt_1 : decode cX8_payDebt 1 = .ok (.getfield 20, 3) := by decide +kernel
theorem dX8_payDebt_4 : decode cX8_payDebt 4 = .ok (.getfield 149, 3) := by decide +kernel
theorem dX8_payDebt_7 : decode cX8_payDebt 7 = .ok (.aload_n 0, 1) := by decide +kernel
theorem dX8_payDebt_8 : decode cX8_payDebt 8 = .ok (.getfield 20, 3) := by decide +kernel
theorem dX8_payDebt_11 : decode cX8_payDebt 11 = .ok (.getfield 152, 3) := by decide +kernel
theorem dX8_payDebt_14 : decode cX8_payDebt 14 = .ok (.invokestatic 155, 3) := by decide +kernel
theorem dX8_payDebt_17 : decode cX8_payDebt 17 = .ok (.istore_n 1, 1) := by decide +kernel
theorem dX8_payDebt_18 : decode cX8_payDebt 18 = .ok (.iload_n 1, 1) := by decide +kernel
theorem dX8_payDebt_19 : decode cX8_payDebt 19 = .ok (.ifCond .ne 6, 3) := by decide +kernel
theorem dX8_payDebt_22 : decode cX8_payDebt 22 = .ok (.bipush (-2), 2) := by decide +kernel
theorem dX8_payDebt_24 : decode cX8_payDebt 24 = .ok (.ireturn, 1) := by decide +kernel
theorem dX8_payDebt_25 : decode cX8_payDebt 25 = .ok (.aload_n 0, 1) := by decide +kernel
theorem dX8_payDebt_26 : decode cX8_payDebt 26 = .ok (.getfield 24, 3) := by decide +kernel
theorem dX8_payDebt_29 : decode cX8_payDebt 29 = .ok (.aload_n 0, 1) := by decide +kernel
theorem dX8_payDebt_30 : decode cX8_payDebt 30 = .ok (.getfield 10, 3) := by decide +kernel
theorem dX8_payDebt_33 : decode cX8_payDebt 33 = .ok (.invokevirtual 70, 3) := by decide +kernel
theorem dX8_payDebt_36 : decode cX8_payDebt 36 = .ok (.aload_n 0, 1) := by decide +kernel
theorem dX8_payDebt_37 : decode cX8_payDebt 37 = .ok (.getfield 20, 3) := by decide +kernel
theorem dX8_payDebt_40 : decode cX8_payDebt 40 = .ok (.dup, 1) := by decide +kernel
theorem dX8_payDebt_41 : decode cX8_payDebt 41 = .ok (.getfield 149, 3) := by decide +kernel
theorem dX8_payDebt_44 : decode cX8_payDebt 44 = .ok (.iload_n 1, 1) := by decide +kernel
theorem dX8_payDebt_45 : decode cX8_payDebt 45 = .ok (.isub, 1) := by decide +kernel
theorem dX8_payDebt_46 : decode cX8_payDebt 46 = .ok (.putfield 149, 3) := by decide +kernel
theorem dX8_payDebt_49 : decode cX8_payDebt 49 = .ok (.aload_n 0, 1) := by decide +kernel
theorem dX8_payDebt_50 : decode cX8_payDebt 50 = .ok (.getfield 20, 3) := by decide +kernel
theorem dX8_payDebt_53 : decode cX8_payDebt 53 = .ok (.dup, 1) := by decide +kernel
theorem dX8_payDebt_54 : decode cX8_payDebt 54 = .ok (.getfield 152, 3) := by decide +kernel
theorem dX8_payDebt_57 : decode cX8_payDebt 57 = .ok (.iload_n 1, 1) := by decide +kernel
theorem dX8_payDebt_58 : decode cX8_payDebt 58 = .ok (.isub, 1) := by decide +kernel
theorem dX8_payDebt_59 : decode cX8_payDebt 59 = .ok (.putfield 152, 3) := by decide +kernel
theorem dX8_payDebt_62 : decode cX8_payDebt 62 = .ok (.iload_n 1, 1) := by decide +kernel
theorem dX8_payDebt_63 : decode cX8_payDebt 63 = .ok (.ireturn, 1) := by decide +kernel
theorem dX8_take_0 : decode cX8_take 0 = .ok (.iload_n 1, 1) := by decide +kernel
theorem dX8_take_1 : decode cX8_take 1 = .ok (.invokestatic 161, 3) := by decide +kernel
theorem dX8_take_4 : decode cX8_take 4 = .ok (.ifCond .ne 5, 3) := by decide +kernel
theorem dX8_take_7 : decode cX8_take 7 = .ok (.iconst (-1), 1) := by decide +kernel
theorem dX8_take_8 : decode cX8_take 8 = .ok (.ireturn, 1) := by decide +kernel
theorem dX8_take_9 : decode cX8_take 9 = .ok (.aload_n 0, 1) := by decide +kernel
theorem dX8_take_10 : decode cX8_take 10 = .ok (.getfield 24, 3) := by decide +kernel
theorem dX8_take_13 : decode cX8_take 13 = .ok (.aload_n 0, 1) := by decide +kernel
theorem dX8_take_14 : decode cX8_take 14 = .ok (.getfield 10, 3) := by decide +kernel
theorem dX8_take_17 : decode cX8_take 17 = .ok (.invokevirtual 70, 3) := by decide +kernel
theorem dX8_take_20 : decode cX8_take 20 = .ok (.aload_n 0, 1) := by decide +kernel
theorem dX8_take_21 : decode cX8_take 21 = .ok (.getfield 10, 3) := by decide +kernel
theorem dX8_take_24 : decode cX8_take 24 = .ok (.iload_n 1, 1) := by decide +kernel
theorem dX8_take_25 : decode cX8_take 25 = .ok (.invokevirtual 164, 3) := by decide +kernel
theorem dX8_take_28 : decode cX8_take 28 = .ok (.aload_n 0, 1) := by decide +kernel
theorem dX8_take_29 : decode cX8_take 29 = .ok (.getfield 20, 3) := by decide +kernel
theorem dX8_take_32 : decode cX8_take 32 = .ok (.getfield 57, 3) := by decide +kernel
theorem dX8_take_35 : decode cX8_take 35 = .ok (.ireturn, 1) := by decide +kernel
theorem dX8_restore_0 : decode cX8_restore 0 = .ok (.iload_n 1, 1) := by decide +kernel
theorem dX8_restore_1 : decode cX8_restore 1 = .ok (.invokestatic 161, 3) := by decide +kernel
theorem dX8_restore_4 : decode cX8_restore 4 = .ok (.ifCond .ne 5, 3) := by decide +kernel
theorem dX8_restore_7 : decode cX8_restore 7 = .ok (.iconst (-1), 1) := by decide +kernel
theorem dX8_restore_8 : decode cX8_restore 8 = .ok (.ireturn, 1) := by decide +kernel
theorem dX8_restore_9 : decode cX8_restore 9 = .ok (.aload_n 0, 1) := by decide +kernel
theorem dX8_restore_10 : decode cX8_restore 10 = .ok (.getfield 10, 3) := by decide +kernel
theorem dX8_restore_13 : decode cX8_restore 13 = .ok (.getfield 167, 3) := by decide +kernel
theorem dX8_restore_16 : decode cX8_restore 16 = .ok (.iload_n 1, 1) := by decide +kernel
theorem dX8_restore_17 : decode cX8_restore 17 = .ok (.baload, 1) := by decide +kernel
theorem dX8_restore_18 : decode cX8_restore 18 = .ok (.ifCond .ne 6, 3) := by decide +kernel
theorem dX8_restore_21 : decode cX8_restore 21 = .ok (.bipush (-2), 2) := by decide +kernel
theorem dX8_restore_23 : decode cX8_restore 23 = .ok (.ireturn, 1) := by decide +kernel
theorem dX8_restore_24 : decode cX8_restore 24 = .ok (.aload_n 0, 1) := by decide +kernel
theorem dX8_restore_25 : decode cX8_restore 25 = .ok (.getfield 24, 3) := by decide +kernel
theorem dX8_restore_28 : decode cX8_restore 28 = .ok (.aload_n 0, 1) := by decide +kernel
theorem dX8_restore_29 : decode cX8_restore 29 = .ok (.getfield 10, 3) := by decide +kernel
theorem dX8_restore_32 : decode cX8_restore 32 = .ok (.invokevirtual 70, 3) := by decide +kernel
theorem dX8_restore_35 : decode cX8_restore 35 = .ok (.aload_n 0, 1) := by decide +kernel
theorem dX8_restore_36 : decode cX8_restore 36 = .ok (.getfield 20, 3) := by decide +kernel
theorem dX8_restore_39 : decode cX8_restore 39 = .ok (.aload_n 0, 1) := by decide +kernel
theorem dX8_restore_40 : decode cX8_restore 40 = .ok (.getfield 10, 3) := by decide +kernel
theorem dX8_restore_43 : decode cX8_restore 43 = .ok (.getfield 171, 3) := by decide +kernel
theorem dX8_restore_46 : decode cX8_restore 46 = .ok (.iload_n 1, 1) := by decide +kernel
theorem dX8_restore_47 : decode cX8_restore 47 = .ok (.aaload, 1) := by decide +kernel
theorem dX8_restore_48 : decode cX8_restore 48 = .ok (.invokevirtual 175, 3) := by decide +kernel
theorem dX8_restore_51 : decode cX8_restore 51 = .ok (.aload_n 0, 1) := by decide +kernel
theorem dX8_restore_52 : decode cX8_restore 52 = .ok (.getfield 20, 3) := by decide +kernel
theorem dX8_restore_55 : decode cX8_restore 55 = .ok (.getfield 57, 3) := by decide +kernel
theorem dX8_restore_58 : decode cX8_restore 58 = .ok (.ireturn, 1) := by decide +kernel
theorem dX8_undo_0 : decode cX8_undo 0 = .ok (.aload_n 0, 1) := by decide +kernel
theorem dX8_undo_1 : decode cX8_undo 1 = .ok (.getfield 24, 3) := by decide +kernel
theorem dX8_undo_4 : decode cX8_undo 4 = .ok (.getfield 179, 3) := by decide +kernel
theorem dX8_undo_7 : decode cX8_undo 7 = .ok (.ifCond .ne 6, 3) := by decide +kernel
theorem dX8_undo_10 : decode cX8_undo 10 = .ok (.bipush (-2), 2) := by decide +kernel
theorem dX8_undo_12 : decode cX8_undo 12 = .ok (.ireturn, 1) := by decide +kernel
theorem dX8_undo_13 : decode cX8_undo 13 = .ok (.aload_n 0, 1) := by decide +kernel
theorem dX8_undo_14 : decode cX8_undo 14 = .ok (.getfield 24, 3) := by decide +kernel
theorem dX8_undo_17 : decode cX8_undo 17 = .ok (.aload_n 0, 1) := by decide +kernel
theorem dX8_undo_18 : decode cX8_undo 18 = .ok (.getfield 10, 3) := by decide +kernel
theorem dX8_undo_21 : decode cX8_undo 21 = .ok (.invokevirtual 182, 3) := by decide +kernel
theorem dX8_undo_24 : decode cX8_undo 24 = .ok (.aload_n 0, 1) := by decide +kernel
theorem dX8_undo_25 : decode cX8_undo 25 = .ok (.getfield 24, 3) := by decide +kernel
theorem dX8_undo_28 : decode cX8_undo 28 = .ok (.getfield 179, 3) := by decide +kernel
theorem dX8_undo_31 : decode cX8_undo 31 = .ok (.ireturn, 1) := by decide +kernel
theorem dX8_append_0 : decode cX8_append 0 = .ok (.iload_n 1, 1) := by decide +kernel
theorem dX8_append_1 : decode cX8_append 1 = .ok (.iconst 1, 1) := by decide +kernel
theorem dX8_append_2 : decode cX8_append 2 = .ok (.sipush 255, 3) := by decide +kernel
theorem dX8_append_5 : decode cX8_append 5 = .ok (.invokestatic 53, 3) := by decide +kernel
theorem dX8_append_8 : decode cX8_append 8 = .ok (.ifCond .ne 5, 3) := by decide +kernel
theorem dX8_append_11 : decode cX8_append 11 = .ok (.iconst (-1), 1) := by decide +kernel
theorem dX8_append_12 : decode cX8_append 12 = .ok (.ireturn, 1) := by decide +kernel
theorem dX8_append_13 : decode cX8_append 13 = .ok (.aload_n 0, 1) := by decide +kernel
theorem dX8_append_14 : decode cX8_append 14 = .ok (.getfield 31, 3) := by decide +kernel
theorem dX8_append_17 : decode cX8_append 17 = .ok (.getfield 185, 3) := by decide +kernel
theorem dX8_append_20 : decode cX8_append 20 = .ok (.bipush 80, 2) := by decide +kernel
theorem dX8_append_22 : decode cX8_append 22 = .ok (.if_icmp .lt 6, 3) := by decide +kernel
theorem dX8_append_25 : decode cX8_append 25 = .ok (.bipush (-3), 2) := by decide +kernel
theorem dX8_append_27 : decode cX8_append 27 = .ok (.ireturn, 1) := by decide +kernel
theorem dX8_append_28 : decode cX8_append 28 = .ok (.aload_n 0, 1) := by decide +kernel
theorem dX8_append_29 : decode cX8_append 29 = .ok (.getfield 31, 3) := by decide +kernel
theorem dX8_append_32 : decode cX8_append 32 = .ok (.iload_n 1, 1) := by decide +kernel
theorem dX8_append_33 : decode cX8_append 33 = .ok (.i2c, 1) := by decide +kernel
theorem dX8_append_34 : decode cX8_append 34 = .ok (.invokevirtual 188, 3) := by decide +kernel
theorem dX8_append_37 : decode cX8_append 37 = .ok (.aload_n 0, 1) := by decide +kernel
theorem dX8_append_38 : decode cX8_append 38 = .ok (.getfield 31, 3) := by decide +kernel
theorem dX8_append_41 : decode cX8_append 41 = .ok (.getfield 185, 3) := by decide +kernel
theorem dX8_append_44 : decode cX8_append 44 = .ok (.ireturn, 1) := by decide +kernel
theorem dX8_clearText_0 : decode cX8_clearText 0 = .ok (.aload_n 0, 1) := by decide +kernel
theorem dX8_clearText_1 : decode cX8_clearText 1 = .ok (.getfield 31, 3) := by decide +kernel
theorem dX8_clearText_4 : decode cX8_clearText 4 = .ok (.getfield 185, 3) := by decide +kernel
theorem dX8_clearText_7 : decode cX8_clearText 7 = .ok (.istore_n 1, 1) := by decide +kernel
theorem dX8_clearText_8 : decode cX8_clearText 8 = .ok (.aload_n 0, 1) := by decide +kernel
theorem dX8_clearText_9 : decode cX8_clearText 9 = .ok (.getfield 31, 3) := by decide +kernel
theorem dX8_clearText_12 : decode cX8_clearText 12 = .ok (.iconst 0, 1) := by decide +kernel
theorem dX8_clearText_13 : decode cX8_clearText 13 = .ok (.putfield 185, 3) := by decide +kernel
theorem dX8_clearText_16 : decode cX8_clearText 16 = .ok (.iload_n 1, 1) := by decide +kernel
theorem dX8_clearText_17 : decode cX8_clearText 17 = .ok (.ireturn, 1) := by decide +kernel
theorem dX8_read_0 : decode cX8_read 0 = .ok (.iload_n 1, 1) := by decide +kernel
theorem dX8_read_1 : decode cX8_read 1 = .ok (.invokestatic 122, 3) := by decide +kernel
theorem dX8_read_4 : decode cX8_read 4 = .ok (.ifCond .ne 5, 3) := by decide +kernel
theorem dX8_read_7 : decode cX8_read 7 = .ok (.iconst (-1), 1) := by decide +kernel
theorem dX8_read_8 : decode cX8_read 8 = .ok (.ireturn, 1) := by decide +kernel
theorem dX8_read_9 : decode cX8_read 9 = .ok (.aload_n 0, 1) := by decide +kernel
theorem dX8_read_10 : decode cX8_read 10 = .ok (.getfield 38, 3) := by decide +kernel
theorem dX8_read_13 : decode cX8_read 13 = .ok (.aload_n 0, 1) := by decide +kernel
theorem dX8_read_14 : decode cX8_read 14 = .ok (.getfield 31, 3) := by decide +kernel
theorem dX8_read_17 : decode cX8_read 17 = .ok (.invokevirtual 192, 3) := by decide +kernel
theorem dX8_read_20 : decode cX8_read 20 = .ok (.istore_n 2, 1) := by decide +kernel
theorem dX8_read_21 : decode cX8_read 21 = .ok (.iload_n 2, 1) := by decide +kernel
theorem dX8_read_22 : decode cX8_read 22 = .ok (.iconst (-1), 1) := by decide +kernel
theorem dX8_read_23 : decode cX8_read 23 = .ok (.if_icmp .eq 9, 3) := by decide +kernel
theorem dX8_read_26 : decode cX8_read 26 = .ok (.sipush (-1000), 3) := by decide +kernel
theorem dX8_read_29 : decode cX8_read 29 = .ok (.iload_n 2, 1) := by decide +kernel
theorem dX8_read_30 : decode cX8_read 30 = .ok (.isub, 1) := by decide +kernel
theorem dX8_read_31 : decode cX8_read 31 = .ok (.ireturn, 1) := by decide +kernel
theorem dX8_read_32 : decode cX8_read 32 = .ok (.aload_n 0, 1) := by decide +kernel
theorem dX8_read_33 : decode cX8_read 33 = .ok (.getfield 38, 3) := by decide +kernel
theorem dX8_read_36 : decode cX8_read 36 = .ok (.getfield 196, 3) := by decide +kernel
theorem dX8_read_39 : decode cX8_read 39 = .ok (.bipush 30, 2) := by decide +kernel
theorem dX8_read_41 : decode cX8_read 41 = .ok (.if_icmp .le 6, 3) := by decide +kernel
theorem dX8_read_44 : decode cX8_read 44 = .ok (.bipush (-3), 2) := by decide +kernel
theorem dX8_read_46 : decode cX8_read 46 = .ok (.ireturn, 1) := by decide +kernel
theorem dX8_read_47 : decode cX8_read 47 = .ok (.aload_n 0, 1) := by decide +kernel
theorem dX8_read_48 : decode cX8_read 48 = .ok (.getfield 24, 3) := by decide +kernel
theorem dX8_read_51 : decode cX8_read 51 = .ok (.aload_n 0, 1) := by decide +kernel
theorem dX8_read_52 : decode cX8_read 52 = .ok (.getfield 10, 3) := by decide +kernel
theorem dX8_read_55 : decode cX8_read 55 = .ok (.invokevirtual 70, 3) := by decide +kernel
theorem dX8_read_58 : decode cX8_read 58 = .ok (.aload_n 0, 1) := by decide +kernel
theorem dX8_read_59 : decode cX8_read 59 = .ok (.getfield 20, 3) := by decide +kernel
theorem dX8_read_62 : decode cX8_read 62 = .ok (.iload_n 1, 1) := by decide +kernel
theorem dX8_read_63 : decode cX8_read 63 = .ok (.aload_n 0, 1) := by decide +kernel
theorem dX8_read_64 : decode cX8_read 64 = .ok (.getfield 38, 3) := by decide +kernel
theorem dX8_read_67 : decode cX8_read 67 = .ok (.getfield 199, 3) := by decide +kernel
theorem dX8_read_70 : decode cX8_read 70 = .ok (.invokevirtual 203, 3) := by decide +kernel
theorem dX8_read_73 : decode cX8_read 73 = .ok (.aload_n 0, 1) := by decide +kernel
theorem dX8_read_74 : decode cX8_read 74 = .ok (.getfield 31, 3) := by decide +kernel
theorem dX8_read_77 : decode cX8_read 77 = .ok (.iconst 0, 1) := by decide +kernel
theorem dX8_read_78 : decode cX8_read 78 = .ok (.putfield 185, 3) := by decide +kernel
theorem dX8_read_81 : decode cX8_read 81 = .ok (.aload_n 0, 1) := by decide +kernel
theorem dX8_read_82 : decode cX8_read 82 = .ok (.getfield 20, 3) := by decide +kernel
theorem dX8_read_85 : decode cX8_read 85 = .ok (.getfield 96, 3) := by decide +kernel
theorem dX8_read_88 : decode cX8_read 88 = .ok (.iload_n 1, 1) := by decide +kernel
theorem dX8_read_89 : decode cX8_read 89 = .ok (.aaload, 1) := by decide +kernel
theorem dX8_read_90 : decode cX8_read 90 = .ok (.getfield 207, 3) := by decide +kernel
theorem dX8_read_93 : decode cX8_read 93 = .ok (.ireturn, 1) := by decide +kernel
theorem dX8_count_0 : decode cX8_count 0 = .ok (.iload_n 1, 1) := by decide +kernel
theorem dX8_count_1 : decode cX8_count 1 = .ok (.tableswitch 252 0 17 #[87, 95, 106, 129, 137, 145, 153, 161, 169, 177, 185, 193, 201, 210, 219, 228, 236, 244], 87) := by decide +kernel
theorem dX8_count_88 : decode cX8_count 88 = .ok (.aload_n 0, 1) := by decide +kernel
theorem dX8_count_89 : decode cX8_count 89 = .ok (.getfield 20, 3) := by decide +kernel
theorem dX8_count_92 : decode cX8_count 92 = .ok (.getfield 57, 3) := by decide +kernel
theorem dX8_count_95 : decode cX8_count 95 = .ok (.ireturn, 1) := by decide +kernel
theorem dX8_count_96 : decode cX8_count 96 = .ok (.aload_n 0, 1) := by decide +kernel
theorem dX8_count_97 : decode cX8_count 97 = .ok (.getfield 20, 3) := by decide +kernel
theorem dX8_count_100 : decode cX8_count 100 = .ok (.getfield 57, 3) := by decide +kernel
theorem dX8_count_103 : decode cX8_count 103 = .ok (.bipush 52, 2) := by decide +kernel
theorem dX8_count_105 : decode cX8_count 105 = .ok (.irem, 1) := by decide +kernel
theorem dX8_count_106 : decode cX8_count 106 = .ok (.ireturn, 1) := by decide +kernel
theorem dX8_count_107 : decode cX8_count 107 = .ok (.aload_n 0, 1) := by decide +kernel
theorem dX8_count_108 : decode cX8_count 108 = .ok (.getfield 20, 3) := by decide +kernel
theorem dX8_count_111 : decode cX8_count 111 = .ok (.aload_n 0, 1) := by decide +kernel
theorem dX8_count_112 : decode cX8_count 112 = .ok (.getfield 20, 3) := by decide +kernel
theorem dX8_count_115 : decode cX8_count 115 = .ok (.getfield 57, 3) := by decide +kernel
theorem dX8_count_118 : decode cX8_count 118 = .ok (.invokevirtual 63, 3) := by decide +kernel
theorem dX8_count_121 : decode cX8_count 121 = .ok (.ifCond .eq 7, 3) := by decide +kernel
theorem dX8_count_124 : decode cX8_count 124 = .ok (.iconst 1, 1) := by decide +kernel
theorem dX8_count_125 : decode cX8_count 125 = .ok (.goto 4, 3) := by decide +kernel
theorem dX8_count_128 : decode cX8_count 128 = .ok (.iconst 0, 1) := by decide +kernel
theorem dX8_count_129 : decode cX8_count 129 = .ok (.ireturn, 1) := by decide +kernel
theorem dX8_count_130 : decode cX8_count 130 = .ok (.aload_n 0, 1) := by decide +kernel
theorem dX8_count_131 : decode cX8_count 131 = .ok (.getfield 20, 3) := by decide +kernel
theorem dX8_count_134 : decode cX8_count 134 = .ok (.getfield 93, 3) := by decide +kernel
theorem dX8_count_137 : decode cX8_count 137 = .ok (.ireturn, 1) := by decide +kernel
theorem dX8_count_138 : decode cX8_count 138 = .ok (.aload_n 0, 1) := by decide +kernel
theorem dX8_count_139 : decode cX8_count 139 = .ok (.getfield 20, 3) := by decide +kernel
theorem dX8_count_142 : decode cX8_count 142 = .ok (.getfield 84, 3) := by decide +kernel
theorem dX8_count_145 : decode cX8_count 145 = .ok (.ireturn, 1) := by decide +kernel
theorem dX8_count_146 : decode cX8_count 146 = .ok (.aload_n 0, 1) := by decide +kernel
theorem dX8_count_147 : decode cX8_count 147 = .ok (.getfield 20, 3) := by decide +kernel
theorem dX8_count_150 : decode cX8_count 150 = .ok (.getfield 149, 3) := by decide +kernel
theorem dX8_count_153 : decode cX8_count 153 = .ok (.ireturn, 1) := by decide +kernel
theorem dX8_count_154 : decode cX8_count 154 = .ok (.aload_n 0, 1) := by decide +kernel
theorem dX8_count_155 : decode cX8_count 155 = .ok (.getfield 20, 3) := by decide +kernel
theorem dX8_count_158 : decode cX8_count 158 = .ok (.getfield 152, 3) := by decide +kernel
theorem dX8_count_161 : decode cX8_count 161 = .ok (.ireturn, 1) := by decide +kernel
theorem dX8_count_162 : decode cX8_count 162 = .ok (.aload_n 0, 1) := by decide +kernel
theorem dX8_count_163 : decode cX8_count 163 = .ok (.getfield 20, 3) := by decide +kernel
theorem dX8_count_166 : decode cX8_count 166 = .ok (.getfield 208, 3) := by decide +kernel
theorem dX8_count_169 : decode cX8_count 169 = .ok (.ireturn, 1) := by decide +kernel
theorem dX8_count_170 : decode cX8_count 170 = .ok (.aload_n 0, 1) := by decide +kernel
theorem dX8_count_171 : decode cX8_count 171 = .ok (.getfield 20, 3) := by decide +kernel
theorem dX8_count_174 : decode cX8_count 174 = .ok (.getfield 211, 3) := by decide +kernel
theorem dX8_count_177 : decode cX8_count 177 = .ok (.ireturn, 1) := by decide +kernel
theorem dX8_count_178 : decode cX8_count 178 = .ok (.aload_n 0, 1) := by decide +kernel
theorem dX8_count_179 : decode cX8_count 179 = .ok (.getfield 20, 3) := by decide +kernel
theorem dX8_count_182 : decode cX8_count 182 = .ok (.invokevirtual 214, 3) := by decide +kernel
theorem dX8_count_185 : decode cX8_count 185 = .ok (.ireturn, 1) := by decide +kernel
theorem dX8_count_186 : decode cX8_count 186 = .ok (.aload_n 0, 1) := by decide +kernel
theorem dX8_count_187 : decode cX8_count 187 = .ok (.getfield 20, 3) := by decide +kernel
theorem dX8_count_190 : decode cX8_count 190 = .ok (.getfield 217, 3) := by decide +kernel
theorem dX8_count_193 : decode cX8_count 193 = .ok (.ireturn, 1) := by decide +kernel
theorem dX8_count_194 : decode cX8_count 194 = .ok (.aload_n 0, 1) := by decide +kernel
theorem dX8_count_195 : decode cX8_count 195 = .ok (.getfield 20, 3) := by decide +kernel
theorem dX8_count_198 : decode cX8_count 198 = .ok (.getfield 220, 3) := by decide +kernel
theorem dX8_count_201 : decode cX8_count 201 = .ok (.ireturn, 1) := by decide +kernel
theorem dX8_count_202 : decode cX8_count 202 = .ok (.aload_n 0, 1) := by decide +kernel
theorem dX8_count_203 : decode cX8_count 203 = .ok (.getfield 20, 3) := by decide +kernel
theorem dX8_count_206 : decode cX8_count 206 = .ok (.iconst 0, 1) := by decide +kernel
theorem dX8_count_207 : decode cX8_count 207 = .ok (.invokevirtual 116, 3) := by decide +kernel
theorem dX8_count_210 : decode cX8_count 210 = .ok (.ireturn, 1) := by decide +kernel
theorem dX8_count_211 : decode cX8_count 211 = .ok (.aload_n 0, 1) := by decide +kernel
theorem dX8_count_212 : decode cX8_count 212 = .ok (.getfield 20, 3) := by decide +kernel
theorem dX8_count_215 : decode cX8_count 215 = .ok (.iconst 1, 1) := by decide +kernel
theorem dX8_count_216 : decode cX8_count 216 = .ok (.invokevirtual 116, 3) := by decide +kernel
theorem dX8_count_219 : decode cX8_count 219 = .ok (.ireturn, 1) := by decide +kernel
theorem dX8_count_220 : decode cX8_count 220 = .ok (.aload_n 0, 1) := by decide +kernel
theorem dX8_count_221 : decode cX8_count 221 = .ok (.getfield 20, 3) := by decide +kernel
theorem dX8_count_224 : decode cX8_count 224 = .ok (.iconst 2, 1) := by decide +kernel
theorem dX8_count_225 : decode cX8_count 225 = .ok (.invokevirtual 116, 3) := by decide +kernel
theorem dX8_count_228 : decode cX8_count 228 = .ok (.ireturn, 1) := by decide +kernel
theorem dX8_count_229 : decode cX8_count 229 = .ok (.aload_n 0, 1) := by decide +kernel
theorem dX8_count_230 : decode cX8_count 230 = .ok (.getfield 10, 3) := by decide +kernel
theorem dX8_count_233 : decode cX8_count 233 = .ok (.invokevirtual 223, 3) := by decide +kernel
theorem dX8_count_236 : decode cX8_count 236 = .ok (.ireturn, 1) := by decide +kernel
theorem dX8_count_237 : decode cX8_count 237 = .ok (.aload_n 0, 1) := by decide +kernel
theorem dX8_count_238 : decode cX8_count 238 = .ok (.getfield 24, 3) := by decide +kernel
theorem dX8_count_241 : decode cX8_count 241 = .ok (.getfield 179, 3) := by decide +kernel
theorem dX8_count_244 : decode cX8_count 244 = .ok (.ireturn, 1) := by decide +kernel
theorem dX8_count_245 : decode cX8_count 245 = .ok (.aload_n 0, 1) := by decide +kernel
theorem dX8_count_246 : decode cX8_count 246 = .ok (.getfield 31, 3) := by decide +kernel
theorem dX8_count_249 : decode cX8_count 249 = .ok (.getfield 185, 3) := by decide +kernel
theorem dX8_count_252 : decode cX8_count 252 = .ok (.ireturn, 1) := by decide +kernel
theorem dX8_count_253 : decode cX8_count 253 = .ok (.iconst (-1), 1) := by decide +kernel
theorem dX8_count_254 : decode cX8_count 254 = .ok (.ireturn, 1) := by decide +kernel
theorem dX8_field_0 : decode cX8_field 0 = .ok (.iload_n 1, 1) := by decide +kernel
theorem dX8_field_1 : decode cX8_field 1 = .ok (.invokestatic 122, 3) := by decide +kernel
theorem dX8_field_4 : decode cX8_field 4 = .ok (.ifCond .ne 5, 3) := by decide +kernel
theorem dX8_field_7 : decode cX8_field 7 = .ok (.iconst (-1), 1) := by decide +kernel
theorem dX8_field_8 : decode cX8_field 8 = .ok (.ireturn, 1) := by decide +kernel
theorem dX8_field_9 : decode cX8_field 9 = .ok (.aload_n 0, 1) := by decide +kernel
theorem dX8_field_10 : decode cX8_field 10 = .ok (.getfield 20, 3) := by decide +kernel
theorem dX8_field_13 : decode cX8_field 13 = .ok (.getfield 96, 3) := by decide +kernel
theorem dX8_field_16 : decode cX8_field 16 = .ok (.iload_n 1, 1) := by decide +kernel
theorem dX8_field_17 : decode cX8_field 17 = .ok (.aaload, 1) := by decide +kernel
theorem dX8_field_18 : decode cX8_field 18 = .ok (.astore_n 3, 1) := by decide +kernel
theorem dX8_field_19 : decode cX8_field 19 = .ok (.aload_n 0, 1) := by decide +kernel
theorem dX8_field_20 : decode cX8_field 20 = .ok (.getfield 20, 3) := by decide +kernel
theorem dX8_field_23 : decode cX8_field 23 = .ok (.getfield 128, 3) := by decide +kernel
theorem dX8_field_26 : decode cX8_field 26 = .ok (.iload_n 1, 1) := by decide +kernel
theorem dX8_field_27 : decode cX8_field 27 = .ok (.aaload, 1) := by decide +kernel
theorem dX8_field_28 : decode cX8_field 28 = .ok (.astore 4, 2) := by decide +kernel
theorem dX8_field_30 : decode cX8_field 30 = .ok (.iload_n 2, 1) := by decide +kernel
theorem dX8_field_31 : decode cX8_field 31 = .ok (.tableswitch 171 0 10 #[57, 62, 68, 74, 80, 86, 95, 100, 114, 133, 152], 57) := by decide +kernel
theorem dX8_field_88 : decode cX8_field 88 = .ok (.aload_n 3, 1) := by decide +kernel
theorem dX8_field_89 : decode cX8_field 89 = .ok (.getfield 207, 3) := by decide +kernel
theorem dX8_field_92 : decode cX8_field 92 = .ok (.ireturn, 1) := by decide +kernel
theorem dX8_field_93 : decode cX8_field 93 = .ok (.aload_n 3, 1) := by decide +kernel
theorem dX8_field_94 : decode cX8_field 94 = .ok (.iconst 0, 1) := by decide +kernel
theorem dX8_field_95 : decode cX8_field 95 = .ok (.invokevirtual 125, 3) := by decide +kernel
theorem dX8_field_98 : decode cX8_field 98 = .ok (.ireturn, 1) := by decide +kernel
theorem dX8_field_99 : decode cX8_field 99 = .ok (.aload_n 3, 1) := by decide +kernel
theorem dX8_field_100 : decode cX8_field 100 = .ok (.iconst 1, 1) := by decide +kernel
theorem dX8_field_101 : decode cX8_field 101 = .ok (.invokevirtual 125, 3) := by decide +kernel
theorem dX8_field_104 : decode cX8_field 104 = .ok (.ireturn, 1) := by decide +kernel
theorem dX8_field_105 : decode cX8_field 105 = .ok (.aload_n 3, 1) := by decide +kernel
theorem dX8_field_106 : decode cX8_field 106 = .ok (.iconst 2, 1) := by decide +kernel
theorem dX8_field_107 : decode cX8_field 107 = .ok (.invokevirtual 125, 3) := by decide +kernel
theorem dX8_field_110 : decode cX8_field 110 = .ok (.ireturn, 1) := by decide +kernel
theorem dX8_field_111 : decode cX8_field 111 = .ok (.aload_n 3, 1) := by decide +kernel
theorem dX8_field_112 : decode cX8_field 112 = .ok (.iconst 3, 1) := by decide +kernel
theorem dX8_field_113 : decode cX8_field 113 = .ok (.invokevirtual 125, 3) := by decide +kernel
theorem dX8_field_116 : decode cX8_field 116 = .ok (.ireturn, 1) := by decide +kernel
theorem dX8_field_117 : decode cX8_field 117 = .ok (.aload_n 3, 1) := by decide +kernel
theorem dX8_field_118 : decode cX8_field 118 = .ok (.aload_n 3, 1) := by decide +kernel
theorem dX8_field_119 : decode cX8_field 119 = .ok (.invokevirtual 226, 3) := by decide +kernel
theorem dX8_field_122 : decode cX8_field 122 = .ok (.invokevirtual 229, 3) := by decide +kernel
theorem dX8_field_125 : decode cX8_field 125 = .ok (.ireturn, 1) := by decide +kernel
theorem dX8_field_126 : decode cX8_field 126 = .ok (.aload_n 3, 1) := by decide +kernel
theorem dX8_field_127 : decode cX8_field 127 = .ok (.invokevirtual 226, 3) := by decide +kernel
theorem dX8_field_130 : decode cX8_field 130 = .ok (.ireturn, 1) := by decide +kernel
theorem dX8_field_131 : decode cX8_field 131 = .ok (.aload 4, 2) := by decide +kernel
theorem dX8_field_133 : decode cX8_field 133 = .ok (.getfield 132, 3) := by decide +kernel
theorem dX8_field_136 : decode cX8_field 136 = .ok (.ifCond .eq 7, 3) := by decide +kernel
theorem dX8_field_139 : decode cX8_field 139 = .ok (.iconst 1, 1) := by decide +kernel
theorem dX8_field_140 : decode cX8_field 140 = .ok (.goto 4, 3) := by decide +kernel
theorem dX8_field_143 : decode cX8_field 143 = .ok (.iconst 0, 1) := by decide +kernel
theorem dX8_field_144 : decode cX8_field 144 = .ok (.ireturn, 1) := by decide +kernel
theorem dX8_field_145 : decode cX8_field 145 = .ok (.aload 4, 2) := by decide +kernel
theorem dX8_field_147 : decode cX8_field 147 = .ok (.getfield 132, 3) := by decide +kernel
theorem dX8_field_150 : decode cX8_field 150 = .ok (.ifCond .eq 11, 3) := by decide +kernel
theorem dX8_field_153 : decode cX8_field 153 = .ok (.aload 4, 2) := by decide +kernel
theorem dX8_field_155 : decode cX8_field 155 = .ok (.getfield 232, 3) := by decide +kernel
theorem dX8_field_158 : decode cX8_field 158 = .ok (.goto 5, 3) := by decide +kernel
theorem dX8_field_161 : decode cX8_field 161 = .ok (.bipush (-9), 2) := by decide +kernel
theorem dX8_field_163 : decode cX8_field 163 = .ok (.ireturn, 1) := by decide +kernel
theorem dX8_field_164 : decode cX8_field 164 = .ok (.aload 4, 2) := by decide +kernel
theorem dX8_field_166 : decode cX8_field 166 = .ok (.getfield 132, 3) := by decide +kernel
theorem dX8_field_169 : decode cX8_field 169 = .ok (.ifCond .eq 11, 3) := by decide +kernel
theorem dX8_field_172 : decode cX8_field 172 = .ok (.aload 4, 2) := by decide +kernel
theorem dX8_field_174 : decode cX8_field 174 = .ok (.getfield 235, 3) := by decide +kernel
theorem dX8_field_177 : decode cX8_field 177 = .ok (.goto 5, 3) := by decide +kernel
theorem dX8_field_180 : decode cX8_field 180 = .ok (.bipush (-9), 2) := by decide +kernel
theorem dX8_field_182 : decode cX8_field 182 = .ok (.ireturn, 1) := by decide +kernel
theorem dX8_field_183 : decode cX8_field 183 = .ok (.aload 4, 2) := by decide +kernel
theorem dX8_field_185 : decode cX8_field 185 = .ok (.getfield 132, 3) := by decide +kernel
theorem dX8_field_188 : decode cX8_field 188 = .ok (.ifCond .eq 11, 3) := by decide +kernel
theorem dX8_field_191 : decode cX8_field 191 = .ok (.aload 4, 2) := by decide +kernel
theorem dX8_field_193 : decode cX8_field 193 = .ok (.getfield 142, 3) := by decide +kernel
theorem dX8_field_196 : decode cX8_field 196 = .ok (.goto 5, 3) := by decide +kernel
theorem dX8_field_199 : decode cX8_field 199 = .ok (.bipush (-9), 2) := by decide +kernel
theorem dX8_field_201 : decode cX8_field 201 = .ok (.ireturn, 1) := by decide +kernel
theorem dX8_field_202 : decode cX8_field 202 = .ok (.iconst (-1), 1) := by decide +kernel
theorem dX8_field_203 : decode cX8_field 203 = .ok (.ireturn, 1) := by decide +kernel
theorem dX8_chain_0 : decode cX8_chain 0 = .ok (.aload_n 0, 1) := by decide +kernel
theorem dX8_chain_1 : decode cX8_chain 1 = .ok (.iload_n 1, 1) := by decide +kernel
theorem dX8_chain_2 : decode cX8_chain 2 = .ok (.iload_n 2, 1) := by decide +kernel
theorem dX8_chain_3 : decode cX8_chain 3 = .ok (.invokevirtual 49, 3) := by decide +kernel
theorem dX8_chain_6 : decode cX8_chain 6 = .ok (.ifCond .ne 5, 3) := by decide +kernel
theorem dX8_chain_9 : decode cX8_chain 9 = .ok (.iconst (-1), 1) := by decide +kernel
theorem dX8_chain_10 : decode cX8_chain 10 = .ok (.ireturn, 1) := by decide +kernel
theorem dX8_chain_11 : decode cX8_chain 11 = .ok (.aload_n 0, 1) := by decide +kernel
theorem dX8_chain_12 : decode cX8_chain 12 = .ok (.getfield 20, 3) := by decide +kernel
theorem dX8_chain_15 : decode cX8_chain 15 = .ok (.getfield 96, 3) := by decide +kernel
theorem dX8_chain_18 : decode cX8_chain 18 = .ok (.iload_n 1, 1) := by decide +kernel
theorem dX8_chain_19 : decode cX8_chain 19 = .ok (.aaload, 1) := by decide +kernel
theorem dX8_chain_20 : decode cX8_chain 20 = .ok (.astore 4, 2) := by decide +kernel
theorem dX8_chain_22 : decode cX8_chain 22 = .ok (.iload_n 3, 1) := by decide +kernel
theorem dX8_chain_23 : decode cX8_chain 23 = .ok (.tableswitch 46 0 2 #[25, 32, 39], 25) := by decide +kernel
theorem dX8_chain_48 : decode cX8_chain 48 = .ok (.aload 4, 2) := by decide +kernel
theorem dX8_chain_50 : decode cX8_chain 50 = .ok (.iload_n 2, 1) := by decide +kernel
theorem dX8_chain_51 : decode cX8_chain 51 = .ok (.invokevirtual 100, 3) := by decide +kernel
theorem dX8_chain_54 : decode cX8_chain 54 = .ok (.ireturn, 1) := by decide +kernel
theorem dX8_chain_55 : decode cX8_chain 55 = .ok (.aload 4, 2) := by decide +kernel
theorem dX8_chain_57 : decode cX8_chain 57 = .ok (.iload_n 2, 1) := by decide +kernel
theorem dX8_chain_58 : decode cX8_chain 58 = .ok (.invokevirtual 238, 3) := by decide +kernel
theorem dX8_chain_61 : decode cX8_chain 61 = .ok (.ireturn, 1) := by decide +kernel
theorem dX8_chain_62 : decode cX8_chain 62 = .ok (.aload 4, 2) := by decide +kernel
theorem dX8_chain_64 : decode cX8_chain 64 = .ok (.iload_n 2, 1) := by decide +kernel
theorem dX8_chain_65 : decode cX8_chain 65 = .ok (.invokevirtual 241, 3) := by decide +kernel
theorem dX8_chain_68 : decode cX8_chain 68 = .ok (.ireturn, 1) := by decide +kernel
theorem dX8_chain_69 : decode cX8_chain 69 = .ok (.iconst (-1), 1) := by decide +kernel
theorem dX8_chain_70 : decode cX8_chain 70 = .ok (.ireturn, 1) := by decide +kernel
theorem dX8_toLay_0 : decode cX8_toLay 0 = .ok (.iload_n 1, 1) := by decide +kernel
theorem dX8_toLay_1 : decode cX8_toLay 1 = .ok (.invokestatic 122, 3) := by decide +kernel
theorem dX8_toLay_4 : decode cX8_toLay 4 = .ok (.ifCond .eq 12, 3) := by decide +kernel
theorem dX8_toLay_7 : decode cX8_toLay 7 = .ok (.iload_n 2, 1) := by decide +kernel
theorem dX8_toLay_8 : decode cX8_toLay 8 = .ok (.iconst 0, 1) := by decide +kernel
theorem dX8_toLay_9 : decode cX8_toLay 9 = .ok (.iconst 1, 1) := by decide +kernel
theorem dX8_toLay_10 : decode cX8_toLay 10 = .ok (.invokestatic 53, 3) := by decide +kernel
theorem dX8_toLay_13 : decode cX8_toLay 13 = .ok (.ifCond .ne 5, 3) := by decide +kernel
theorem dX8_toLay_16 : decode cX8_toLay 16 = .ok (.iconst (-1), 1) := by decide +kernel
theorem dX8_toLay_17 : decode cX8_toLay 17 = .ok (.ireturn, 1) := by decide +kernel
theorem dX8_toLay_18 : decode cX8_toLay 18 = .ok (.aload_n 0, 1) := by decide +kernel
theorem dX8_toLay_19 : decode cX8_toLay 19 = .ok (.getfield 20, 3) := by decide +kernel
theorem dX8_toLay_22 : decode cX8_toLay 22 = .ok (.getfield 96, 3) := by decide +kernel
theorem dX8_toLay_25 : decode cX8_toLay 25 = .ok (.iload_n 1, 1) := by decide +kernel
theorem dX8_toLay_26 : decode cX8_toLay 26 = .ok (.aaload, 1) := by decide +kernel
theorem dX8_toLay_27 : decode cX8_toLay 27 = .ok (.astore_n 3, 1) := by decide +kernel
theorem dX8_toLay_28 : decode cX8_toLay 28 = .ok (.iload_n 2, 1) := by decide +kernel
theorem dX8_toLay_29 : decode cX8_toLay 29 = .ok (.ifCond .ne 10, 3) := by decide +kernel
theorem dX8_toLay_32 : decode cX8_toLay 32 = .ok (.aload_n 3, 1) := by decide +kernel
theorem dX8_toLay_33 : decode cX8_toLay 33 = .ok (.invokevirtual 244, 3) := by decide +kernel
theorem dX8_toLay_36 : decode cX8_toLay 36 = .ok (.goto 7, 3) := by decide +kernel
theorem dX8_toLay_39 : decode cX8_toLay 39 = .ok (.aload_n 3, 1) := by decide +kernel
theorem dX8_toLay_40 : decode cX8_toLay 40 = .ok (.invokevirtual 247, 3) := by decide +kernel
theorem dX8_toLay_43 : decode cX8_toLay 43 = .ok (.ireturn, 1) := by decide +kernel
theorem dX8_stakesIn_0 : decode cX8_stakesIn 0 = .ok (.iload_n 1, 1) := by decide +kernel
theorem dX8_stakesIn_1 : decode cX8_stakesIn 1 = .ok (.invokestatic 122, 3) := by decide +kernel
theorem dX8_stakesIn_4 : decode cX8_stakesIn 4 = .ok (.ifCond .eq 18, 3) := by decide +kernel
theorem dX8_stakesIn_7 : decode cX8_stakesIn 7 = .ok (.aload_n 0, 1) := by decide +kernel
theorem dX8_stakesIn_8 : decode cX8_stakesIn 8 = .ok (.getfield 20, 3) := by decide +kernel
theorem dX8_stakesIn_11 : decode cX8_stakesIn 11 = .ok (.getfield 96, 3) := by decide +kernel
theorem dX8_stakesIn_14 : decode cX8_stakesIn 14 = .ok (.iload_n 1, 1) := by decide +kernel
theorem dX8_stakesIn_15 : decode cX8_stakesIn 15 = .ok (.aaload, 1) := by decide +kernel
theorem dX8_stakesIn_16 : decode cX8_stakesIn 16 = .ok (.invokevirtual 250, 3) := by decide +kernel
theorem dX8_stakesIn_19 : decode cX8_stakesIn 19 = .ok (.goto 4, 3) := by decide +kernel
theorem dX8_stakesIn_22 : decode cX8_stakesIn 22 = .ok (.iconst (-1), 1) := by decide +kernel
theorem dX8_stakesIn_23 : decode cX8_stakesIn 23 = .ok (.ireturn, 1) := by decide +kernel
theorem dX8_doneIn_0 : decode cX8_doneIn 0 = .ok (.iload_n 1, 1) := by decide +kernel
theorem dX8_doneIn_1 : decode cX8_doneIn 1 = .ok (.invokestatic 122, 3) := by decide +kernel
theorem dX8_doneIn_4 : decode cX8_doneIn 4 = .ok (.ifCond .eq 14, 3) := by decide +kernel
theorem dX8_doneIn_7 : decode cX8_doneIn 7 = .ok (.aload_n 0, 1) := by decide +kernel
theorem dX8_doneIn_8 : decode cX8_doneIn 8 = .ok (.getfield 20, 3) := by decide +kernel
theorem dX8_doneIn_11 : decode cX8_doneIn 11 = .ok (.iload_n 1, 1) := by decide +kernel
theorem dX8_doneIn_12 : decode cX8_doneIn 12 = .ok (.invokevirtual 253, 3) := by decide +kernel
theorem dX8_doneIn_15 : decode cX8_doneIn 15 = .ok (.goto 4, 3) := by decide +kernel
theorem dX8_doneIn_18 : decode cX8_doneIn 18 = .ok (.iconst (-1), 1) := by decide +kernel
theorem dX8_doneIn_19 : decode cX8_doneIn 19 = .ok (.ireturn, 1) := by decide +kernel
theorem dX8_bestOrder_0 : decode cX8_bestOrder 0 = .ok (.iload_n 1, 1) := by decide +kernel
theorem dX8_bestOrder_1 : decode cX8_bestOrder 1 = .ok (.iconst 0, 1) := by decide +kernel
theorem dX8_bestOrder_2 : decode cX8_bestOrder 2 = .ok (.iconst 1, 1) := by decide +kernel
theorem dX8_bestOrder_3 : decode cX8_bestOrder 3 = .ok (.invokestatic 53, 3) := by decide +kernel
theorem dX8_bestOrder_6 : decode cX8_bestOrder 6 = .ok (.ifCond .ne 5, 3) := by decide +kernel
theorem dX8_bestOrder_9 : decode cX8_bestOrder 9 = .ok (.iconst (-1), 1) := by decide +kernel
theorem dX8_bestOrder_10 : decode cX8_bestOrder 10 = .ok (.ireturn, 1) := by decide +kernel
theorem dX8_bestOrder_11 : decode cX8_bestOrder 11 = .ok (.aload_n 0, 1) := by decide +kernel
theorem dX8_bestOrder_12 : decode cX8_bestOrder 12 = .ok (.getfield 20, 3) := by decide +kernel
theorem dX8_bestOrder_15 : decode cX8_bestOrder 15 = .ok (.invokevirtual 214, 3) := by decide +kernel
theorem dX8_bestOrder_18 : decode cX8_bestOrder 18 = .ok (.ifCond .ne 6, 3) := by decide +kernel
theorem dX8_bestOrder_21 : decode cX8_bestOrder 21 = .ok (.bipush (-9), 2) := by decide +kernel
theorem dX8_bestOrder_23 : decode cX8_bestOrder 23 = .ok (.ireturn, 1) := by decide +kernel
theorem dX8_bestOrder_24 : decode cX8_bestOrder 24 = .ok (.aload_n 0, 1) := by decide +kernel
theorem dX8_bestOrder_25 : decode cX8_bestOrder 25 = .ok (.getfield 45, 3) := by decide +kernel
theorem dX8_bestOrder_28 : decode cX8_bestOrder 28 = .ok (.aload_n 0, 1) := by decide +kernel
theorem dX8_bestOrder_29 : decode cX8_bestOrder 29 = .ok (.getfield 20, 3) := by decide +kernel
theorem dX8_bestOrder_32 : decode cX8_bestOrder 32 = .ok (.invokevirtual 256, 3) := by decide +kernel
theorem dX8_bestOrder_35 : decode cX8_bestOrder 35 = .ok (.iload_n 1, 1) := by decide +kernel
theorem dX8_bestOrder_36 : decode cX8_bestOrder 36 = .ok (.ifCond .ne 13, 3) := by decide +kernel
theorem dX8_bestOrder_39 : decode cX8_bestOrder 39 = .ok (.aload_n 0, 1) := by decide +kernel
theorem dX8_bestOrder_40 : decode cX8_bestOrder 40 = .ok (.getfield 45, 3) := by decide +kernel
theorem dX8_bestOrder_43 : decode cX8_bestOrder 43 = .ok (.invokevirtual 259, 3) := by decide +kernel
theorem dX8_bestOrder_46 : decode cX8_bestOrder 46 = .ok (.goto 10, 3) := by decide +kernel
theorem dX8_bestOrder_49 : decode cX8_bestOrder 49 = .ok (.aload_n 0, 1) := by decide +kernel
theorem dX8_bestOrder_50 : decode cX8_bestOrder 50 = .ok (.getfield 45, 3) := by decide +kernel
theorem dX8_bestOrder_53 : decode cX8_bestOrder 53 = .ok (.invokevirtual 262, 3) := by decide +kernel
theorem dX8_bestOrder_56 : decode cX8_bestOrder 56 = .ok (.ireturn, 1) := by decide +kernel
theorem dX8_isWithin_0 : decode cX8_isWithin 0 = .ok (.iload_n 0, 1) := by decide +kernel
theorem dX8_isWithin_1 : decode cX8_isWithin 1 = .ok (.iload_n 1, 1) := by decide +kernel
theorem dX8_isWithin_2 : decode cX8_isWithin 2 = .ok (.if_icmp .lt 12, 3) := by decide +kernel
theorem dX8_isWithin_5 : decode cX8_isWithin 5 = .ok (.iload_n 0, 1) := by decide +kernel
theorem dX8_isWithin_6 : decode cX8_isWithin 6 = .ok (.iload_n 2, 1) := by decide +kernel
theorem dX8_isWithin_7 : decode cX8_isWithin 7 = .ok (.if_icmp .gt 7, 3) := by decide +kernel
theorem dX8_isWithin_10 : decode cX8_isWithin 10 = .ok (.iconst 1, 1) := by decide +kernel
theorem dX8_isWithin_11 : decode cX8_isWithin 11 = .ok (.goto 4, 3) := by decide +kernel
theorem dX8_isWithin_14 : decode cX8_isWithin 14 = .ok (.iconst 0, 1) := by decide +kernel
theorem dX8_isWithin_15 : decode cX8_isWithin 15 = .ok (.ireturn, 1) := by decide +kernel
theorem dX8_isField_0 : decode cX8_isField 0 = .ok (.iload_n 0, 1) := by decide +kernel
theorem dX8_isField_1 : decode cX8_isField 1 = .ok (.iconst 0, 1) := by decide +kernel
theorem dX8_isField_2 : decode cX8_isField 2 = .ok (.iconst 5, 1) := by decide +kernel
theorem dX8_isField_3 : decode cX8_isField 3 = .ok (.invokestatic 53, 3) := by decide +kernel
theorem dX8_isField_6 : decode cX8_isField 6 = .ok (.ireturn, 1) := by decide +kernel
theorem dX8_isSlot_0 : decode cX8_isSlot 0 = .ok (.iload_n 0, 1) := by decide +kernel
theorem dX8_isSlot_1 : decode cX8_isSlot 1 = .ok (.iconst 0, 1) := by decide +kernel
theorem dX8_isSlot_2 : decode cX8_isSlot 2 = .ok (.iconst 1, 1) := by decide +kernel
theorem dX8_isSlot_3 : decode cX8_isSlot 3 = .ok (.invokestatic 53, 3) := by decide +kernel
theorem dX8_isSlot_6 : decode cX8_isSlot 6 = .ok (.ireturn, 1) := by decide +kernel
theorem dX8_isChain_0 : decode cX8_isChain 0 = .ok (.iload_n 1, 1) := by decide +kernel
theorem dX8_isChain_1 : decode cX8_isChain 1 = .ok (.invokestatic 122, 3) := by decide +kernel
theorem dX8_isChain_4 : decode cX8_isChain 4 = .ok (.ifCond .eq 23, 3) := by decide +kernel
theorem dX8_isChain_7 : decode cX8_isChain 7 = .ok (.aload_n 0, 1) := by decide +kernel
theorem dX8_isChain_8 : decode cX8_isChain 8 = .ok (.getfield 20, 3) := by decide +kernel
theorem dX8_isChain_11 : decode cX8_isChain 11 = .ok (.getfield 96, 3) := by decide +kernel
theorem dX8_isChain_14 : decode cX8_isChain 14 = .ok (.iload_n 1, 1) := by decide +kernel
theorem dX8_isChain_15 : decode cX8_isChain 15 = .ok (.aaload, 1) := by decide +kernel
theorem dX8_isChain_16 : decode cX8_isChain 16 = .ok (.iload_n 2, 1) := by decide +kernel
theorem dX8_isChain_17 : decode cX8_isChain 17 = .ok (.invokevirtual 265, 3) := by decide +kernel
theorem dX8_isChain_20 : decode cX8_isChain 20 = .ok (.ifCond .eq 7, 3) := by decide +kernel
theorem dX8_isChain_23 : decode cX8_isChain 23 = .ok (.iconst 1, 1) := by decide +kernel
theorem dX8_isChain_24 : decode cX8_isChain 24 = .ok (.goto 4, 3) := by decide +kernel
theorem dX8_isChain_27 : decode cX8_isChain 27 = .ok (.iconst 0, 1) := by decide +kernel
theorem dX8_isChain_28 : decode cX8_isChain 28 = .ok (.ireturn, 1) := by decide +kernel
theorem dX8_canBeSet_0 : decode cX8_canBeSet 0 = .ok (.iload_n 0, 1) := by decide +kernel
theorem dX8_canBeSet_1 : decode cX8_canBeSet 1 = .ok (.tableswitch 51 0 2 #[27, 35, 43], 27) := by decide +kernel
theorem dX8_canBeSet_28 : decode cX8_canBeSet 28 = .ok (.iload_n 1, 1) := by decide +kernel
theorem dX8_canBeSet_29 : decode cX8_canBeSet 29 = .ok (.iconst 0, 1) := by decide +kernel
theorem dX8_canBeSet_30 : decode cX8_canBeSet 30 = .ok (.bipush 51, 2) := by decide +kernel
theorem dX8_canBeSet_32 : decode cX8_canBeSet 32 = .ok (.invokestatic 53, 3) := by decide +kernel
theorem dX8_canBeSet_35 : decode cX8_canBeSet 35 = .ok (.ireturn, 1) := by decide +kernel
theorem dX8_canBeSet_36 : decode cX8_canBeSet 36 = .ok (.iload_n 1, 1) := by decide +kernel
theorem dX8_canBeSet_37 : decode cX8_canBeSet 37 = .ok (.iconst 0, 1) := by decide +kernel
theorem dX8_canBeSet_38 : decode cX8_canBeSet 38 = .ok (.bipush 51, 2) := by decide +kernel
theorem dX8_canBeSet_40 : decode cX8_canBeSet 40 = .ok (.invokestatic 53, 3) := by decide +kernel
theorem dX8_canBeSet_43 : decode cX8_canBeSet 43 = .ok (.ireturn, 1) := by decide +kernel
theorem dX8_canBeSet_44 : decode cX8_canBeSet 44 = .ok (.iload_n 1, 1) := by decide +kernel
theorem dX8_canBeSet_45 : decode cX8_canBeSet 45 = .ok (.iconst 1, 1) := by decide +kernel
theorem dX8_canBeSet_46 : decode cX8_canBeSet 46 = .ok (.bipush 100, 2) := by decide +kernel
theorem dX8_canBeSet_48 : decode cX8_canBeSet 48 = .ok (.invokestatic 53, 3) := by decide +kernel
theorem dX8_canBeSet_51 : decode cX8_canBeSet 51 = .ok (.ireturn, 1) := by decide +kernel
theorem dX8_canBeSet_52 : decode cX8_canBeSet 52 = .ok (.iconst 0, 1) := by decide +kernel
theorem dX8_canBeSet_53 : decode cX8_canBeSet 53 = .ok (.ireturn, 1) := by decide +kernel
end
section
theorem dX9_init_0 : decode cX9_init 0 = .ok (.aload_n 0, 1) := by decide +kernel
theorem dX9_init_1 : decode cX9_init 1 = .ok (.invokespecial 1, 3) := by decide +kernel
theorem dX9_init_4 : decode cX9_init 4 = .ok (.aload_n 0, 1) := by decide +kernel
theorem dX9_init_5 : decode cX9_init 5 = .ok (.sipush 668, 3) := by decide +kernel
theorem dX9_init_8 : decode cX9_init 8 = .ok (.newarray .int, 2) := by decide +kernel
theorem dX9_init_10 : decode cX9_init 10 = .ok (.putfield 7, 3) := by decide +kernel
theorem dX9_init_13 : decode cX9_init 13 = .ok (.aload_n 0, 1) := by decide +kernel
theorem dX9_init_14 : decode cX9_init 14 = .ok (.sipush 3340, 3) := by decide +kernel
theorem dX9_init_17 : decode cX9_init 17 = .ok (.newarray .int, 2) := by decide +kernel
theorem dX9_init_19 : decode cX9_init 19 = .ok (.putfield 13, 3) := by decide +kernel
theorem dX9_init_22 : decode cX9_init 22 = .ok (.aload_n 0, 1) := by decide +kernel
theorem dX9_init_23 : decode cX9_init 23 = .ok (.sipush 668, 3) := by decide +kernel
theorem dX9_init_26 : decode cX9_init 26 = .ok (.newarray .int, 2) := by decide +kernel
theorem dX9_init_28 : decode cX9_init 28 = .ok (.putfield 16, 3) := by decide +kernel
theorem dX9_init_31 : decode cX9_init 31 = .ok (.aload_n 0, 1) := by decide +kernel
theorem dX9_init_32 : decode cX9_init 32 = .ok (.bipush 64, 2) := by decide +kernel
theorem dX9_init_34 : decode cX9_init 34 = .ok (.newarray .int, 2) := by decide +kernel
theorem dX9_init_36 : decode cX9_init 36 = .ok (.putfield 19, 3) := by decide +kernel
theorem dX9_init_39 : decode cX9_init 39 = .ok (.aload_n 0, 1) := by decide +kernel
theorem dX9_init_40 : decode cX9_init 40 = .ok (.bipush 80, 2) := by decide +kernel
theorem dX9_init_42 : decode cX9_init 42 = .ok (.newarray .int, 2) := by decide +kernel
theorem dX9_init_44 : decode cX9_init 44 = .ok (.putfield 22, 3) := by decide +kernel
theorem dX9_init_47 : decode cX9_init 47 = .ok (.aload_n 0, 1) := by decide +kernel
theorem dX9_init_48 : decode cX9_init 48 = .ok (.getfield 7, 3) := by decide +kernel
theorem dX9_init_51 : decode cX9_init 51 = .ok (.iconst 1, 1) := by decide +kernel
theorem dX9_init_52 : decode cX9_init 52 = .ok (.bipush 30, 2) := by decide +kernel
theorem dX9_init_54 : decode cX9_init 54 = .ok (.iastore, 1) := by decide +kernel
theorem dX9_init_55 : decode cX9_init 55 = .ok (.aload_n 0, 1) := by decide +kernel
theorem dX9_init_56 : decode cX9_init 56 = .ok (.getfield 7, 3) := by decide +kernel
theorem dX9_init_59 : decode cX9_init 59 = .ok (.iconst 2, 1) := by decide +kernel
theorem dX9_init_60 : decode cX9_init 60 = .ok (.bipush 10, 2) := by decide +kernel
theorem dX9_init_62 : decode cX9_init 62 = .ok (.iastore, 1) := by decide +kernel
theorem dX9_init_63 : decode cX9_init 63 = .ok (.aload_n 0, 1) := by decide +kernel
theorem dX9_init_64 : decode cX9_init 64 = .ok (.getfield 7, 3) := by decide +kernel
theorem dX9_init_67 : decode cX9_init 67 = .ok (.iconst 3, 1) := by decide +kernel
theorem dX9_init_68 : decode cX9_init 68 = .ok (.bipush 50, 2) := by decide +kernel
theorem dX9_init_70 : decode cX9_init 70 = .ok (.iastore, 1) := by decide +kernel
theorem dX9_init_71 : decode cX9_init 71 = .ok (.aload_n 0, 1) := by decide +kernel
theorem dX9_init_72 : decode cX9_init 72 = .ok (.getfield 7, 3) := by decide +kernel
theorem dX9_init_75 : decode cX9_init 75 = .ok (.bipush 9, 2) := by decide +kernel
theorem dX9_init_77 : decode cX9_init 77 = .ok (.bipush 10, 2) := by decide +kernel
theorem dX9_init_79 : decode cX9_init 79 = .ok (.iastore, 1) := by decide +kernel
theorem dX9_init_80 : decode cX9_init 80 = .ok (.aload_n 0, 1) := by decide +kernel
theorem dX9_init_81 : decode cX9_init 81 = .ok (.getfield 7, 3) := by decide +kernel
theorem dX9_init_84 : decode cX9_init 84 = .ok (.bipush 10, 2) := by decide +kernel
theorem dX9_init_86 : decode cX9_init 86 = .ok (.bipush 30, 2) := by decide +kernel
theorem dX9_init_88 : decode cX9_init 88 = .ok (.iastore, 1) := by decide +kernel
theorem dX9_init_89 : decode cX9_init 89 = .ok (.aload_n 0, 1) := by decide +kernel
theorem dX9_init_90 : decode cX9_init 90 = .ok (.getfield 7, 3) := by decide +kernel
theorem dX9_init_93 : decode cX9_init 93 = .ok (.bipush 11, 2) := by decide +kernel
theorem dX9_init_95 : decode cX9_init 95 = .ok (.bipush 30, 2) := by decide +kernel
theorem dX9_init_97 : decode cX9_init 97 = .ok (.iastore, 1) := by decide +kernel
theorem dX9_init_98 : decode cX9_init 98 = .ok (.iconst 0, 1) := by decide +kernel
theorem dX9_init_99 : decode cX9_init 99 = .ok (.istore_n 1, 1) := by decide +kernel
theorem dX9_init_100 : decode cX9_init 100 = .ok (.iload_n 1, 1) := by decide +kernel
theorem dX9_init_101 : decode cX9_init 101 = .ok (.bipush 6, 2) := by decide +kernel
theorem dX9_init_103 : decode cX9_init 103 = .ok (.if_icmp .ge 42, 3) := by decide +kernel
theorem dX9_init_106 : decode cX9_init 106 = .ok (.aload_n 0, 1) := by decide +kernel
theorem dX9_init_107 : decode cX9_init 107 = .ok (.getfield 7, 3) := by decide +kernel
theorem dX9_init_110 : decode cX9_init 110 = .ok (.bipush 12, 2) := by decide +kernel
theorem dX9_init_112 : decode cX9_init 112 = .ok (.iload_n 1, 1) := by decide +kernel
theorem dX9_init_113 : decode cX9_init 113 = .ok (.iadd, 1) := by decide +kernel
theorem dX9_init_114 : decode cX9_init 114 = .ok (.bipush 10, 2) := by decide +kernel
theorem dX9_init_116 : decode cX9_init 116 = .ok (.iastore, 1) := by decide +kernel
theorem dX9_init_117 : decode cX9_init 117 = .ok (.iconst 0, 1) := by decide +kernel
theorem dX9_init_118 : decode cX9_init 118 = .ok (.istore_n 2, 1) := by decide +kernel
theorem dX9_init_119 : decode cX9_init 119 = .ok (.iload_n 2, 1) := by decide +kernel
theorem dX9_init_120 : decode cX9_init 120 = .ok (.bipush 10, 2) := by decide +kernel
theorem dX9_init_122 : decode cX9_init 122 = .ok (.if_icmp .ge 17, 3) := by decide +kernel
theorem dX9_init_125 : decode cX9_init 125 = .ok (.aload_n 0, 1) := by decide +kernel
theorem dX9_init_126 : decode cX9_init 126 = .ok (.iload_n 1, 1) := by decide +kernel
theorem dX9_init_127 : decode cX9_init 127 = .ok (.iload_n 2, 1) := by decide +kernel
theorem dX9_init_128 : decode cX9_init 128 = .ok (.iconst 0, 1) := by decide +kernel
theorem dX9_init_129 : decode cX9_init 129 = .ok (.iconst 4, 1) := by decide +kernel
theorem dX9_init_130 : decode cX9_init 130 = .ok (.invokevirtual 25, 3) := by decide +kernel
theorem dX9_init_133 : decode cX9_init 133 = .ok (.iinc 2 1, 3) := by decide +kernel
theorem dX9_init_136 : decode cX9_init 136 = .ok (.goto (-17), 3) := by decide +kernel
theorem dX9_init_139 : decode cX9_init 139 = .ok (.iinc 1 1, 3) := by decide +kernel
theorem dX9_init_142 : decode cX9_init 142 = .ok (.goto (-42), 3) := by decide +kernel
theorem dX9_init_145 : decode cX9_init 145 = .ok (.return_, 1) := by decide +kernel
theorem dX9_in_0 : decode cX9_in 0 = .ok (.iload_n 0, 1) := by decide +kernel
theorem dX9_in_1 : decode cX9_in 1 = .ok (.iload_n 1, 1) := by decide +kernel
theorem dX9_in_2 : decode cX9_in 2 = .ok (.if_icmp .lt 12, 3) := by decide +kernel
theorem dX9_in_5 : decode cX9_in 5 = .ok (.iload_n 0, 1) := by decide +kernel
theorem dX9_in_6 : decode cX9_in 6 = .ok (.iload_n 2, 1) := by decide +kernel
theorem dX9_in_7 : decode cX9_in 7 = .ok (.if_icmp .gt 7, 3) := by decide +kernel
theorem dX9_in_10 : decode cX9_in 10 = .ok (.iconst 1, 1) := by decide +kernel
theorem dX9_in_11 : decode cX9_in 11 = .ok (.goto 4, 3) := by decide +kernel
theorem dX9_in_14 : decode cX9_in 14 = .ok (.iconst 0, 1) := by decide +kernel
theorem dX9_in_15 : decode cX9_in 15 = .ok (.ireturn, 1) := by decide +kernel
theorem dX9_lays_0 : decode cX9_lays 0 = .ok (.aload_n 0, 1) := by decide +kernel
theorem dX9_lays_1 : decode cX9_lays 1 = .ok (.getfield 7, 3) := by decide +kernel
theorem dX9_lays_4 : decode cX9_lays 4 = .ok (.bipush 42, 2) := by decide +kernel
theorem dX9_lays_6 : decode cX9_lays 6 = .ok (.bipush 30, 2) := by decide +kernel
theorem dX9_lays_8 : decode cX9_lays 8 = .ok (.iload_n 1, 1) := by decide +kernel
theorem dX9_lays_9 : decode cX9_lays 9 = .ok (.imul, 1) := by decide +kernel
theorem dX9_lays_10 : decode cX9_lays 10 = .ok (.iadd, 1) := by decide +kernel
theorem dX9_lays_11 : decode cX9_lays 11 = .ok (.iload_n 2, 1) := by decide +kernel
theorem dX9_lays_12 : decode cX9_lays 12 = .ok (.iadd, 1) := by decide +kernel
theorem dX9_lays_13 : decode cX9_lays 13 = .ok (.iload_n 3, 1) := by decide +kernel
theorem dX9_lays_14 : decode cX9_lays 14 = .ok (.iconst 4, 1) := by decide +kernel
theorem dX9_lays_15 : decode cX9_lays 15 = .ok (.iload 4, 2) := by decide +kernel
theorem dX9_lays_17 : decode cX9_lays 17 = .ok (.imul, 1) := by decide +kernel
theorem dX9_lays_18 : decode cX9_lays 18 = .ok (.iadd, 1) := by decide +kernel
theorem dX9_lays_19 : decode cX9_lays 19 = .ok (.iastore, 1) := by decide +kernel
theorem dX9_lays_20 : decode cX9_lays 20 = .ok (.return_, 1) := by decide +kernel
theorem dX9_kindOf_0 : decode cX9_kindOf 0 = .ok (.aload_n 0, 1) := by decide +kernel
theorem dX9_kindOf_1 : decode cX9_kindOf 1 = .ok (.getfield 7, 3) := by decide +kernel
theorem dX9_kindOf_4 : decode cX9_kindOf 4 = .ok (.bipush 42, 2) := by decide +kernel
theorem dX9_kindOf_6 : decode cX9_kindOf 6 = .ok (.bipush 30, 2) := by decide +kernel
theorem dX9_kindOf_8 : decode cX9_kindOf 8 = .ok (.iload_n 1, 1) := by decide +kernel
theorem dX9_kindOf_9 : decode cX9_kindOf 9 = .ok (.imul, 1) := by decide +kernel
theorem dX9_kindOf_10 : decode cX9_kindOf 10 = .ok (.iadd, 1) := by decide +kernel
theorem dX9_kindOf_11 : decode cX9_kindOf 11 = .ok (.iload_n 2, 1) := by decide +kernel
theorem dX9_kindOf_12 : decode cX9_kindOf 12 = .ok (.iadd, 1) := by decide +kernel
theorem dX9_kindOf_13 : decode cX9_kindOf 13 = .ok (.iaload, 1) := by decide +kernel
theorem dX9_kindOf_14 : decode cX9_kindOf 14 = .ok (.iconst 4, 1) := by decide +kernel
theorem dX9_kindOf_15 : decode cX9_kindOf 15 = .ok (.irem, 1) := by decide +kernel
theorem dX9_kindOf_16 : decode cX9_kindOf 16 = .ok (.ireturn, 1) := by decide +kernel
theorem dX9_thickness_0 : decode cX9_thickness 0 = .ok (.aload_n 0, 1) := by decide +kernel
theorem dX9_thickness_1 : decode cX9_thickness 1 = .ok (.getfield 7, 3) := by decide +kernel
theorem dX9_thickness_4 : decode cX9_thickness 4 = .ok (.bipush 42, 2) := by decide +kernel
theorem dX9_thickness_6 : decode cX9_thickness 6 = .ok (.bipush 30, 2) := by decide +kernel
theorem dX9_thickness_8 : decode cX9_thickness 8 = .ok (.iload_n 1, 1) := by decide +kernel
theorem dX9_thickness_9 : decode cX9_thickness 9 = .ok (.imul, 1) := by decide +kernel
theorem dX9_thickness_10 : decode cX9_thickness 10 = .ok (.iadd, 1) := by decide +kernel
theorem dX9_thickness_11 : decode cX9_thickness 11 = .ok (.iload_n 2, 1) := by decide +kernel
theorem dX9_thickness_12 : decode cX9_thickness 12 = .ok (.iadd, 1) := by decide +kernel
theorem dX9_thickness_13 : decode cX9_thickness 13 = .ok (.iaload, 1) := by decide +kernel
theorem dX9_thickness_14 : decode cX9_thickness 14 = .ok (.iconst 4, 1) := by decide +kernel
theorem dX9_thickness_15 : decode cX9_thickness 15 = .ok (.idiv, 1) := by decide +kernel
theorem dX9_thickness_16 : decode cX9_thickness 16 = .ok (.bipush 16, 2) := by decide +kernel
theorem dX9_thickness_18 : decode cX9_thickness 18 = .ok (.irem, 1) := by decide +kernel
theorem dX9_thickness_19 : decode cX9_thickness 19 = .ok (.ireturn, 1) := by decide +kernel
theorem dX9_age_0 : decode cX9_age 0 = .ok (.aload_n 0, 1) := by decide +kernel
theorem dX9_age_1 : decode cX9_age 1 = .ok (.getfield 7, 3) := by decide +kernel
theorem dX9_age_4 : decode cX9_age 4 = .ok (.bipush 42, 2) := by decide +kernel
theorem dX9_age_6 : decode cX9_age 6 = .ok (.bipush 30, 2) := by decide +kernel
theorem dX9_age_8 : decode cX9_age 8 = .ok (.iload_n 1, 1) := by decide +kernel
theorem dX9_age_9 : decode cX9_age 9 = .ok (.imul, 1) := by decide +kernel
theorem dX9_age_10 : decode cX9_age 10 = .ok (.iadd, 1) := by decide +kernel
theorem dX9_age_11 : decode cX9_age 11 = .ok (.iload_n 2, 1) := by decide +kernel
theorem dX9_age_12 : decode cX9_age 12 = .ok (.iadd, 1) := by decide +kernel
theorem dX9_age_13 : decode cX9_age 13 = .ok (.iaload, 1) := by decide +kernel
theorem dX9_age_14 : decode cX9_age 14 = .ok (.bipush 64, 2) := by decide +kernel
theorem dX9_age_16 : decode cX9_age 16 = .ok (.idiv, 1) := by decide +kernel
theorem dX9_age_17 : decode cX9_age 17 = .ok (.ireturn, 1) := by decide +kernel
theorem dX9_isField_0 : decode cX9_isField 0 = .ok (.iload_n 0, 1) := by decide +kernel
theorem dX9_isField_1 : decode cX9_isField 1 = .ok (.iconst 0, 1) := by decide +kernel
theorem dX9_isField_2 : decode cX9_isField 2 = .ok (.iconst 5, 1) := by decide +kernel
theorem dX9_isField_3 : decode cX9_isField 3 = .ok (.invokestatic 29, 3) := by decide +kernel
theorem dX9_isField_6 : decode cX9_isField 6 = .ok (.ireturn, 1) := by decide +kernel
theorem dX9_isChain_0 : decode cX9_isChain 0 = .ok (.iload_n 1, 1) := by decide +kernel
theorem dX9_isChain_1 : decode cX9_isChain 1 = .ok (.invokestatic 33, 3) := by decide +kernel
theorem dX9_isChain_4 : decode cX9_isChain 4 = .ok (.ifCond .eq 26, 3) := by decide +kernel
theorem dX9_isChain_7 : decode cX9_isChain 7 = .ok (.iload_n 2, 1) := by decide +kernel
theorem dX9_isChain_8 : decode cX9_isChain 8 = .ok (.iconst 0, 1) := by decide +kernel
theorem dX9_isChain_9 : decode cX9_isChain 9 = .ok (.aload_n 0, 1) := by decide +kernel
theorem dX9_isChain_10 : decode cX9_isChain 10 = .ok (.getfield 7, 3) := by decide +kernel
theorem dX9_isChain_13 : decode cX9_isChain 13 = .ok (.bipush 12, 2) := by decide +kernel
theorem dX9_isChain_15 : decode cX9_isChain 15 = .ok (.iload_n 1, 1) := by decide +kernel
theorem dX9_isChain_16 : decode cX9_isChain 16 = .ok (.iadd, 1) := by decide +kernel
theorem dX9_isChain_17 : decode cX9_isChain 17 = .ok (.iaload, 1) := by decide +kernel
theorem dX9_isChain_18 : decode cX9_isChain 18 = .ok (.iconst 1, 1) := by decide +kernel
theorem dX9_isChain_19 : decode cX9_isChain 19 = .ok (.isub, 1) := by decide +kernel
theorem dX9_isChain_20 : decode cX9_isChain 20 = .ok (.invokestatic 29, 3) := by decide +kernel
theorem dX9_isChain_23 : decode cX9_isChain 23 = .ok (.ifCond .eq 7, 3) := by decide +kernel
theorem dX9_isChain_26 : decode cX9_isChain 26 = .ok (.iconst 1, 1) := by decide +kernel
theorem dX9_isChain_27 : decode cX9_isChain 27 = .ok (.goto 4, 3) := by decide +kernel
theorem dX9_isChain_30 : decode cX9_isChain 30 = .ok (.iconst 0, 1) := by decide +kernel
theorem dX9_isChain_31 : decode cX9_isChain 31 = .ok (.ireturn, 1) := by decide +kernel
theorem dX9_ofKind_0 : decode cX9_ofKind 0 = .ok (.iconst 0, 1) := by decide +kernel
theorem dX9_ofKind_1 : decode cX9_ofKind 1 = .ok (.istore_n 3, 1) := by decide +kernel
theorem dX9_ofKind_2 : decode cX9_ofKind 2 = .ok (.iconst 0, 1) := by decide +kernel
theorem dX9_ofKind_3 : decode cX9_ofKind 3 = .ok (.istore 4, 2) := by decide +kernel
theorem dX9_ofKind_5 : decode cX9_ofKind 5 = .ok (.iload 4, 2) := by decide +kernel
theorem dX9_ofKind_7 : decode cX9_ofKind 7 = .ok (.aload_n 0, 1) := by decide +kernel
theorem dX9_ofKind_8 : decode cX9_ofKind 8 = .ok (.getfield 7, 3) := by decide +kernel
theorem dX9_ofKind_11 : decode cX9_ofKind 11 = .ok (.bipush 12, 2) := by decide +kernel
theorem dX9_ofKind_13 : decode cX9_ofKind 13 = .ok (.iload_n 1, 1) := by decide +kernel
theorem dX9_ofKind_14 : decode cX9_ofKind 14 = .ok (.iadd, 1) := by decide +kernel
theorem dX9_ofKind_15 : decode cX9_ofKind 15 = .ok (.iaload, 1) := by decide +kernel
theorem dX9_ofKind_16 : decode cX9_ofKind 16 = .ok (.if_icmp .ge 28, 3) := by decide +kernel
theorem dX9_ofKind_19 : decode cX9_ofKind 19 = .ok (.iload_n 3, 1) := by decide +kernel
theorem dX9_ofKind_20 : decode cX9_ofKind 20 = .ok (.aload_n 0, 1) := by decide +kernel
theorem dX9_ofKind_21 : decode cX9_ofKind 21 = .ok (.iload_n 1, 1) := by decide +kernel
theorem dX9_ofKind_22 : decode cX9_ofKind 22 = .ok (.iload 4, 2) := by decide +kernel
theorem dX9_ofKind_24 : decode cX9_ofKind 24 = .ok (.invokevirtual 37, 3) := by decide +kernel
theorem dX9_ofKind_27 : decode cX9_ofKind 27 = .ok (.iload_n 2, 1) := by decide +kernel
theorem dX9_ofKind_28 : decode cX9_ofKind 28 = .ok (.if_icmp .ne 7, 3) := by decide +kernel
theorem dX9_ofKind_31 : decode cX9_ofKind 31 = .ok (.iconst 1, 1) := by decide +kernel
theorem dX9_ofKind_32 : decode cX9_ofKind 32 = .ok (.goto 4, 3) := by decide +kernel
theorem dX9_ofKind_35 : decode cX9_ofKind 35 = .ok (.iconst 0, 1) := by decide +kernel
theorem dX9_ofKind_36 : decode cX9_ofKind 36 = .ok (.iadd, 1) := by decide +kernel
theorem dX9_ofKind_37 : decode cX9_ofKind 37 = .ok (.istore_n 3, 1) := by decide +kernel
theorem dX9_ofKind_38 : decode cX9_ofKind 38 = .ok (.iinc 4 1, 3) := by decide +kernel
theorem dX9_ofKind_41 : decode cX9_ofKind 41 = .ok (.goto (-36), 3) := by decide +kernel
theorem dX9_ofKind_44 : decode cX9_ofKind 44 = .ok (.iload_n 3, 1) := by decide +kernel
theorem dX9_ofKind_45 : decode cX9_ofKind 45 = .ok (.ireturn, 1) := by decide +kernel
theorem dX9_con_0 : decode cX9_con 0 = .ok (.aload_n 0, 1) := by decide +kernel
theorem dX9_con_1 : decode cX9_con 1 = .ok (.getfield 7, 3) := by decide +kernel
theorem dX9_con_4 : decode cX9_con 4 = .ok (.bipush 18, 2) := by decide +kernel
theorem dX9_con_6 : decode cX9_con 6 = .ok (.iconst 4, 1) := by decide +kernel
theorem dX9_con_7 : decode cX9_con 7 = .ok (.iload_n 1, 1) := by decide +kernel
theorem dX9_con_8 : decode cX9_con 8 = .ok (.imul, 1) := by decide +kernel
theorem dX9_con_9 : decode cX9_con 9 = .ok (.iadd, 1) := by decide +kernel
theorem dX9_con_10 : decode cX9_con 10 = .ok (.iload_n 2, 1) := by decide +kernel
theorem dX9_con_11 : decode cX9_con 11 = .ok (.iadd, 1) := by decide +kernel
theorem dX9_con_12 : decode cX9_con 12 = .ok (.iaload, 1) := by decide +kernel
theorem dX9_con_13 : decode cX9_con 13 = .ok (.ireturn, 1) := by decide +kernel
theorem dX9_keeps_0 : decode cX9_keeps 0 = .ok (.iconst 0, 1) := by decide +kernel
theorem dX9_keeps_1 : decode cX9_keeps 1 = .ok (.istore_n 1, 1) := by decide +kernel
theorem dX9_keeps_2 : decode cX9_keeps 2 = .ok (.iload_n 1, 1) := by decide +kernel
theorem dX9_keeps_3 : decode cX9_keeps 3 = .ok (.sipush 668, 3) := by decide +kernel
theorem dX9_keeps_6 : decode cX9_keeps 6 = .ok (.if_icmp .ge 21, 3) := by decide +kernel
theorem dX9_keeps_9 : decode cX9_keeps 9 = .ok (.aload_n 0, 1) := by decide +kernel
theorem dX9_keeps_10 : decode cX9_keeps 10 = .ok (.getfield 16, 3) := by decide +kernel
theorem dX9_keeps_13 : decode cX9_keeps 13 = .ok (.iload_n 1, 1) := by decide +kernel
theorem dX9_keeps_14 : decode cX9_keeps 14 = .ok (.aload_n 0, 1) := by decide +kernel
theorem dX9_keeps_15 : decode cX9_keeps 15 = .ok (.getfield 7, 3) := by decide +kernel
theorem dX9_keeps_18 : decode cX9_keeps 18 = .ok (.iload_n 1, 1) := by decide +kernel
theorem dX9_keeps_19 : decode cX9_keeps 19 = .ok (.iaload, 1) := by decide +kernel
theorem dX9_keeps_20 : decode cX9_keeps 20 = .ok (.iastore, 1) := by decide +kernel
theorem dX9_keeps_21 : decode cX9_keeps 21 = .ok (.iinc 1 1, 3) := by decide +kernel
theorem dX9_keeps_24 : decode cX9_keeps 24 = .ok (.goto (-22), 3) := by decide +kernel
theorem dX9_keeps_27 : decode cX9_keeps 27 = .ok (.return_, 1) := by decide +kernel
theorem dX9_acted_0 : decode cX9_acted 0 = .ok (.iload_n 1, 1) := by decide +kernel
theorem dX9_acted_1 : decode cX9_acted 1 = .ok (.ifCond .lt 98, 3) := by decide +kernel
theorem dX9_acted_4 : decode cX9_acted 4 = .ok (.aload_n 0, 1) := by decide +kernel
theorem dX9_acted_5 : decode cX9_acted 5 = .ok (.getfield 41, 3) := by decide +kernel
theorem dX9_acted_8 : decode cX9_acted 8 = .ok (.iconst 5, 1) := by decide +kernel
theorem dX9_acted_9 : decode cX9_acted 9 = .ok (.if_icmp .ne 44, 3) := by decide +kernel
theorem dX9_acted_12 : decode cX9_acted 12 = .ok (.iconst 0, 1) := by decide +kernel
theorem dX9_acted_13 : decode cX9_acted 13 = .ok (.istore_n 2, 1) := by decide +kernel
theorem dX9_acted_14 : decode cX9_acted 14 = .ok (.iload_n 2, 1) := by decide +kernel
theorem dX9_acted_15 : decode cX9_acted 15 = .ok (.sipush 2672, 3) := by decide +kernel
theorem dX9_acted_18 : decode cX9_acted 18 = .ok (.if_icmp .ge 25, 3) := by decide +kernel
theorem dX9_acted_21 : decode cX9_acted 21 = .ok (.aload_n 0, 1) := by decide +kernel
theorem dX9_acted_22 : decode cX9_acted 22 = .ok (.getfield 13, 3) := by decide +kernel
theorem dX9_acted_25 : decode cX9_acted 25 = .ok (.iload_n 2, 1) := by decide +kernel
theorem dX9_acted_26 : decode cX9_acted 26 = .ok (.aload_n 0, 1) := by decide +kernel
theorem dX9_acted_27 : decode cX9_acted 27 = .ok (.getfield 13, 3) := by decide +kernel
theorem dX9_acted_30 : decode cX9_acted 30 = .ok (.iload_n 2, 1) := by decide +kernel
theorem dX9_acted_31 : decode cX9_acted 31 = .ok (.sipush 668, 3) := by decide +kernel
theorem dX9_acted_34 : decode cX9_acted 34 = .ok (.iadd, 1) := by decide +kernel
theorem dX9_acted_35 : decode cX9_acted 35 = .ok (.iaload, 1) := by decide +kernel
theorem dX9_acted_36 : decode cX9_acted 36 = .ok (.iastore, 1) := by decide +kernel
theorem dX9_acted_37 : decode cX9_acted 37 = .ok (.iinc 2 1, 3) := by decide +kernel
theorem dX9_acted_40 : decode cX9_acted 40 = .ok (.goto (-26), 3) := by decide +kernel
theorem dX9_acted_43 : decode cX9_acted 43 = .ok (.aload_n 0, 1) := by decide +kernel
theorem dX9_acted_44 : decode cX9_acted 44 = .ok (.dup, 1) := by decide +kernel
theorem dX9_acted_45 : decode cX9_acted 45 = .ok (.getfield 41, 3) := by decide +kernel
theorem dX9_acted_48 : decode cX9_acted 48 = .ok (.iconst 1, 1) := by decide +kernel
theorem dX9_acted_49 : decode cX9_acted 49 = .ok (.isub, 1) := by decide +kernel
theorem dX9_acted_50 : decode cX9_acted 50 = .ok (.putfield 41, 3) := by decide +kernel
theorem dX9_acted_53 : decode cX9_acted 53 = .ok (.iconst 0, 1) := by decide +kernel
theorem dX9_acted_54 : decode cX9_acted 54 = .ok (.istore_n 2, 1) := by decide +kernel
theorem dX9_acted_55 : decode cX9_acted 55 = .ok (.iload_n 2, 1) := by decide +kernel
theorem dX9_acted_56 : decode cX9_acted 56 = .ok (.sipush 668, 3) := by decide +kernel
theorem dX9_acted_59 : decode cX9_acted 59 = .ok (.if_icmp .ge 30, 3) := by decide +kernel
theorem dX9_acted_62 : decode cX9_acted 62 = .ok (.aload_n 0, 1) := by decide +kernel
theorem dX9_acted_63 : decode cX9_acted 63 = .ok (.getfield 13, 3) := by decide +kernel
theorem dX9_acted_66 : decode cX9_acted 66 = .ok (.sipush 668, 3) := by decide +kernel
theorem dX9_acted_69 : decode cX9_acted 69 = .ok (.aload_n 0, 1) := by decide +kernel
theorem dX9_acted_70 : decode cX9_acted 70 = .ok (.getfield 41, 3) := by decide +kernel
theorem dX9_acted_73 : decode cX9_acted 73 = .ok (.imul, 1) := by decide +kernel
theorem dX9_acted_74 : decode cX9_acted 74 = .ok (.iload_n 2, 1) := by decide +kernel
theorem dX9_acted_75 : decode cX9_acted 75 = .ok (.iadd, 1) := by decide +kernel
theorem dX9_acted_76 : decode cX9_acted 76 = .ok (.aload_n 0, 1) := by decide +kernel
theorem dX9_acted_77 : decode cX9_acted 77 = .ok (.getfield 16, 3) := by decide +kernel
theorem dX9_acted_80 : decode cX9_acted 80 = .ok (.iload_n 2, 1) := by decide +kernel
theorem dX9_acted_81 : decode cX9_acted 81 = .ok (.iaload, 1) := by decide +kernel
theorem dX9_acted_82 : decode cX9_acted 82 = .ok (.iastore, 1) := by decide +kernel
theorem dX9_acted_83 : decode cX9_acted 83 = .ok (.iinc 2 1, 3) := by decide +kernel
theorem dX9_acted_86 : decode cX9_acted 86 = .ok (.goto (-31), 3) := by decide +kernel
theorem dX9_acted_89 : decode cX9_acted 89 = .ok (.aload_n 0, 1) := by decide +kernel
theorem dX9_acted_90 : decode cX9_acted 90 = .ok (.dup, 1) := by decide +kernel
theorem dX9_acted_91 : decode cX9_acted 91 = .ok (.getfield 41, 3) := by decide +kernel
theorem dX9_acted_94 : decode cX9_acted 94 = .ok (.iconst 1, 1) := by decide +kernel
theorem dX9_acted_95 : decode cX9_acted 95 = .ok (.iadd, 1) := by decide +kernel
theorem dX9_acted_96 : decode cX9_acted 96 = .ok (.putfield 41, 3) := by decide +kernel
theorem dX9_acted_99 : decode cX9_acted 99 = .ok (.iload_n 1, 1) := by decide +kernel
theorem dX9_acted_100 : decode cX9_acted 100 = .ok (.ireturn, 1) := by decide +kernel
theorem dX9_isClosed_0 : decode cX9_isClosed 0 = .ok (.iload_n 1, 1) := by decide +kernel
theorem dX9_isClosed_1 : decode cX9_isClosed 1 = .ok (.bipush 52, 2) := by decide +kernel
theorem dX9_isClosed_3 : decode cX9_isClosed 3 = .ok (.irem, 1) := by decide +kernel
theorem dX9_isClosed_4 : decode cX9_isClosed 4 = .ok (.istore_n 2, 1) := by decide +kernel
theorem dX9_isClosed_5 : decode cX9_isClosed 5 = .ok (.aload_n 0, 1) := by decide +kernel
theorem dX9_isClosed_6 : decode cX9_isClosed 6 = .ok (.getfield 7, 3) := by decide +kernel
theorem dX9_isClosed_9 : decode cX9_isClosed 9 = .ok (.bipush 9, 2) := by decide +kernel
theorem dX9_isClosed_11 : decode cX9_isClosed 11 = .ok (.iaload, 1) := by decide +kernel
theorem dX9_isClosed_12 : decode cX9_isClosed 12 = .ok (.aload_n 0, 1) := by decide +kernel
theorem dX9_isClosed_13 : decode cX9_isClosed 13 = .ok (.getfield 7, 3) := by decide +kernel
theorem dX9_isClosed_16 : decode cX9_isClosed 16 = .ok (.bipush 10, 2) := by decide +kernel
theorem dX9_isClosed_18 : decode cX9_isClosed 18 = .ok (.iaload, 1) := by decide +kernel
theorem dX9_isClosed_19 : decode cX9_isClosed 19 = .ok (.if_icmp .gt 33, 3) := by decide +kernel
theorem dX9_isClosed_22 : decode cX9_isClosed 22 = .ok (.iload_n 2, 1) := by decide +kernel
theorem dX9_isClosed_23 : decode cX9_isClosed 23 = .ok (.aload_n 0, 1) := by decide +kernel
theorem dX9_isClosed_24 : decode cX9_isClosed 24 = .ok (.getfield 7, 3) := by decide +kernel
theorem dX9_isClosed_27 : decode cX9_isClosed 27 = .ok (.bipush 9, 2) := by decide +kernel
theorem dX9_isClosed_29 : decode cX9_isClosed 29 = .ok (.iaload, 1) := by decide +kernel
theorem dX9_isClosed_30 : decode cX9_isClosed 30 = .ok (.if_icmp .lt 18, 3) := by decide +kernel
theorem dX9_isClosed_33 : decode cX9_isClosed 33 = .ok (.iload_n 2, 1) := by decide +kernel
theorem dX9_isClosed_34 : decode cX9_isClosed 34 = .ok (.aload_n 0, 1) := by decide +kernel
theorem dX9_isClosed_35 : decode cX9_isClosed 35 = .ok (.getfield 7, 3) := by decide +kernel
theorem dX9_isClosed_38 : decode cX9_isClosed 38 = .ok (.bipush 10, 2) := by decide +kernel
theorem dX9_isClosed_40 : decode cX9_isClosed 40 = .ok (.iaload, 1) := by decide +kernel
theorem dX9_isClosed_41 : decode cX9_isClosed 41 = .ok (.if_icmp .gt 7, 3) := by decide +kernel
theorem dX9_isClosed_44 : decode cX9_isClosed 44 = .ok (.iconst 1, 1) := by decide +kernel
theorem dX9_isClosed_45 : decode cX9_isClosed 45 = .ok (.goto 34, 3) := by decide +kernel
theorem dX9_isClosed_48 : decode cX9_isClosed 48 = .ok (.iconst 0, 1) := by decide +kernel
theorem dX9_isClosed_49 : decode cX9_isClosed 49 = .ok (.goto 30, 3) := by decide +kernel
theorem dX9_isClosed_52 : decode cX9_isClosed 52 = .ok (.iload_n 2, 1) := by decide +kernel
theorem dX9_isClosed_53 : decode cX9_isClosed 53 = .ok (.aload_n 0, 1) := by decide +kernel
theorem dX9_isClosed_54 : decode cX9_isClosed 54 = .ok (.getfield 7, 3) := by decide +kernel
theorem dX9_isClosed_57 : decode cX9_isClosed 57 = .ok (.bipush 9, 2) := by decide +kernel
theorem dX9_isClosed_59 : decode cX9_isClosed 59 = .ok (.iaload, 1) := by decide +kernel
theorem dX9_isClosed_60 : decode cX9_isClosed 60 = .ok (.if_icmp .ge 14, 3) := by decide +kernel
theorem dX9_isClosed_63 : decode cX9_isClosed 63 = .ok (.iload_n 2, 1) := by decide +kernel
theorem dX9_isClosed_64 : decode cX9_isClosed 64 = .ok (.aload_n 0, 1) := by decide +kernel
theorem dX9_isClosed_65 : decode cX9_isClosed 65 = .ok (.getfield 7, 3) := by decide +kernel
theorem dX9_isClosed_68 : decode cX9_isClosed 68 = .ok (.bipush 10, 2) := by decide +kernel
theorem dX9_isClosed_70 : decode cX9_isClosed 70 = .ok (.iaload, 1) := by decide +kernel
theorem dX9_isClosed_71 : decode cX9_isClosed 71 = .ok (.if_icmp .gt 7, 3) := by decide +kernel
theorem dX9_isClosed_74 : decode cX9_isClosed 74 = .ok (.iconst 1, 1) := by decide +kernel
theorem dX9_isClosed_75 : decode cX9_isClosed 75 = .ok (.goto 4, 3) := by decide +kernel
theorem dX9_isClosed_78 : decode cX9_isClosed 78 = .ok (.iconst 0, 1) := by decide +kernel
theorem dX9_isClosed_79 : decode cX9_isClosed 79 = .ok (.ireturn, 1) := by decide +kernel
theorem dX9_ends_0 : decode cX9_ends 0 = .ok (.iconst 0, 1) := by decide +kernel
theorem dX9_ends_1 : decode cX9_ends 1 = .ok (.istore_n 2, 1) := by decide +kernel
theorem dX9_ends_2 : decode cX9_ends 2 = .ok (.iload_n 2, 1) := by decide +kernel
theorem dX9_ends_3 : decode cX9_ends 3 = .ok (.iconst 4, 1) := by decide +kernel
theorem dX9_ends_4 : decode cX9_ends 4 = .ok (.if_icmp .ge 32, 3) := by decide +kernel
theorem dX9_ends_7 : decode cX9_ends 7 = .ok (.aload_n 0, 1) := by decide +kernel
theorem dX9_ends_8 : decode cX9_ends 8 = .ok (.iload_n 1, 1) := by decide +kernel
theorem dX9_ends_9 : decode cX9_ends 9 = .ok (.iconst 0, 1) := by decide +kernel
theorem dX9_ends_10 : decode cX9_ends 10 = .ok (.invokevirtual 45, 3) := by decide +kernel
theorem dX9_ends_13 : decode cX9_ends 13 = .ok (.ifCond .ne 23, 3) := by decide +kernel
theorem dX9_ends_16 : decode cX9_ends 16 = .ok (.aload_n 0, 1) := by decide +kernel
theorem dX9_ends_17 : decode cX9_ends 17 = .ok (.getfield 7, 3) := by decide +kernel
theorem dX9_ends_20 : decode cX9_ends 20 = .ok (.bipush 18, 2) := by decide +kernel
theorem dX9_ends_22 : decode cX9_ends 22 = .ok (.iconst 4, 1) := by decide +kernel
theorem dX9_ends_23 : decode cX9_ends 23 = .ok (.iload_n 1, 1) := by decide +kernel
theorem dX9_ends_24 : decode cX9_ends 24 = .ok (.imul, 1) := by decide +kernel
theorem dX9_ends_25 : decode cX9_ends 25 = .ok (.iadd, 1) := by decide +kernel
theorem dX9_ends_26 : decode cX9_ends 26 = .ok (.iload_n 2, 1) := by decide +kernel
theorem dX9_ends_27 : decode cX9_ends 27 = .ok (.iadd, 1) := by decide +kernel
theorem dX9_ends_28 : decode cX9_ends 28 = .ok (.iconst 0, 1) := by decide +kernel
theorem dX9_ends_29 : decode cX9_ends 29 = .ok (.iastore, 1) := by decide +kernel
theorem dX9_ends_30 : decode cX9_ends 30 = .ok (.iinc 2 1, 3) := by decide +kernel
theorem dX9_ends_33 : decode cX9_ends 33 = .ok (.goto (-31), 3) := by decide +kernel
theorem dX9_ends_36 : decode cX9_ends 36 = .ok (.return_, 1) := by decide +kernel
theorem dX9_canLay_0 : decode cX9_canLay 0 = .ok (.aload_n 0, 1) := by decide +kernel
theorem dX9_canLay_1 : decode cX9_canLay 1 = .ok (.iload_n 1, 1) := by decide +kernel
theorem dX9_canLay_2 : decode cX9_canLay 2 = .ok (.iload_n 2, 1) := by decide +kernel
theorem dX9_canLay_3 : decode cX9_canLay 3 = .ok (.invokevirtual 48, 3) := by decide +kernel
theorem dX9_canLay_6 : decode cX9_canLay 6 = .ok (.istore_n 3, 1) := by decide +kernel
theorem dX9_canLay_7 : decode cX9_canLay 7 = .ok (.aload_n 0, 1) := by decide +kernel
theorem dX9_canLay_8 : decode cX9_canLay 8 = .ok (.iload_n 1, 1) := by decide +kernel
theorem dX9_canLay_9 : decode cX9_canLay 9 = .ok (.iload_n 2, 1) := by decide +kernel
theorem dX9_canLay_10 : decode cX9_canLay 10 = .ok (.invokevirtual 37, 3) := by decide +kernel
theorem dX9_canLay_13 : decode cX9_canLay 13 = .ok (.ifCond .ne 32, 3) := by decide +kernel
theorem dX9_canLay_16 : decode cX9_canLay 16 = .ok (.iload_n 3, 1) := by decide +kernel
theorem dX9_canLay_17 : decode cX9_canLay 17 = .ok (.iconst 2, 1) := by decide +kernel
theorem dX9_canLay_18 : decode cX9_canLay 18 = .ok (.if_icmp .lt 27, 3) := by decide +kernel
theorem dX9_canLay_21 : decode cX9_canLay 21 = .ok (.aload_n 0, 1) := by decide +kernel
theorem dX9_canLay_22 : decode cX9_canLay 22 = .ok (.getfield 7, 3) := by decide +kernel
theorem dX9_canLay_25 : decode cX9_canLay 25 = .ok (.iconst 1, 1) := by decide +kernel
theorem dX9_canLay_26 : decode cX9_canLay 26 = .ok (.iaload, 1) := by decide +kernel
theorem dX9_canLay_27 : decode cX9_canLay 27 = .ok (.iload_n 3, 1) := by decide +kernel
theorem dX9_canLay_28 : decode cX9_canLay 28 = .ok (.if_icmp .lt 17, 3) := by decide +kernel
theorem dX9_canLay_31 : decode cX9_canLay 31 = .ok (.aload_n 0, 1) := by decide +kernel
theorem dX9_canLay_32 : decode cX9_canLay 32 = .ok (.getfield 7, 3) := by decide +kernel
theorem dX9_canLay_35 : decode cX9_canLay 35 = .ok (.iconst 2, 1) := by decide +kernel
theorem dX9_canLay_36 : decode cX9_canLay 36 = .ok (.iaload, 1) := by decide +kernel
theorem dX9_canLay_37 : decode cX9_canLay 37 = .ok (.iconst 2, 1) := by decide +kernel
theorem dX9_canLay_38 : decode cX9_canLay 38 = .ok (.if_icmp .lt 7, 3) := by decide +kernel
theorem dX9_canLay_41 : decode cX9_canLay 41 = .ok (.iconst 1, 1) := by decide +kernel
theorem dX9_canLay_42 : decode cX9_canLay 42 = .ok (.goto 4, 3) := by decide +kernel
theorem dX9_canLay_45 : decode cX9_canLay 45 = .ok (.iconst 0, 1) := by decide +kernel
theorem dX9_canLay_46 : decode cX9_canLay 46 = .ok (.ireturn, 1) := by decide +kernel
theorem dX9_lay_0 : decode cX9_lay 0 = .ok (.aload_n 0, 1) := by decide +kernel
theorem dX9_lay_1 : decode cX9_lay 1 = .ok (.iload_n 1, 1) := by decide +kernel
theorem dX9_lay_2 : decode cX9_lay 2 = .ok (.iload_n 2, 1) := by decide +kernel
theorem dX9_lay_3 : decode cX9_lay 3 = .ok (.invokevirtual 51, 3) := by decide +kernel
theorem dX9_lay_6 : decode cX9_lay 6 = .ok (.ifCond .eq 13, 3) := by decide +kernel
theorem dX9_lay_9 : decode cX9_lay 9 = .ok (.iload_n 3, 1) := by decide +kernel
theorem dX9_lay_10 : decode cX9_lay 10 = .ok (.iconst 1, 1) := by decide +kernel
theorem dX9_lay_11 : decode cX9_lay 11 = .ok (.bipush 30, 2) := by decide +kernel
theorem dX9_lay_13 : decode cX9_lay 13 = .ok (.invokestatic 29, 3) := by decide +kernel
theorem dX9_lay_16 : decode cX9_lay 16 = .ok (.ifCond .ne 5, 3) := by decide +kernel
theorem dX9_lay_19 : decode cX9_lay 19 = .ok (.iconst (-1), 1) := by decide +kernel
theorem dX9_lay_20 : decode cX9_lay 20 = .ok (.ireturn, 1) := by decide +kernel
theorem dX9_lay_21 : decode cX9_lay 21 = .ok (.aload_n 0, 1) := by decide +kernel
theorem dX9_lay_22 : decode cX9_lay 22 = .ok (.aload_n 0, 1) := by decide +kernel
theorem dX9_lay_23 : decode cX9_lay 23 = .ok (.getfield 7, 3) := by decide +kernel
theorem dX9_lay_26 : decode cX9_lay 26 = .ok (.iconst 0, 1) := by decide +kernel
theorem dX9_lay_27 : decode cX9_lay 27 = .ok (.iaload, 1) := by decide +kernel
theorem dX9_lay_28 : decode cX9_lay 28 = .ok (.invokevirtual 55, 3) := by decide +kernel
theorem dX9_lay_31 : decode cX9_lay 31 = .ok (.ifCond .ne 12, 3) := by decide +kernel
theorem dX9_lay_34 : decode cX9_lay 34 = .ok (.aload_n 0, 1) := by decide +kernel
theorem dX9_lay_35 : decode cX9_lay 35 = .ok (.iload_n 1, 1) := by decide +kernel
theorem dX9_lay_36 : decode cX9_lay 36 = .ok (.iload_n 2, 1) := by decide +kernel
theorem dX9_lay_37 : decode cX9_lay 37 = .ok (.invokevirtual 58, 3) := by decide +kernel
theorem dX9_lay_40 : decode cX9_lay 40 = .ok (.ifCond .ne 6, 3) := by decide +kernel
theorem dX9_lay_43 : decode cX9_lay 43 = .ok (.bipush (-2), 2) := by decide +kernel
theorem dX9_lay_45 : decode cX9_lay 45 = .ok (.ireturn, 1) := by decide +kernel
theorem dX9_lay_46 : decode cX9_lay 46 = .ok (.aload_n 0, 1) := by decide +kernel
theorem dX9_lay_47 : decode cX9_lay 47 = .ok (.invokevirtual 61, 3) := by decide +kernel
theorem dX9_lay_50 : decode cX9_lay 50 = .ok (.iconst 0, 1) := by decide +kernel
theorem dX9_lay_51 : decode cX9_lay 51 = .ok (.istore 4, 2) := by decide +kernel
theorem dX9_lay_53 : decode cX9_lay 53 = .ok (.iload_n 2, 1) := by decide +kernel
theorem dX9_lay_54 : decode cX9_lay 54 = .ok (.istore 5, 2) := by decide +kernel
theorem dX9_lay_56 : decode cX9_lay 56 = .ok (.iload 5, 2) := by decide +kernel
theorem dX9_lay_58 : decode cX9_lay 58 = .ok (.aload_n 0, 1) := by decide +kernel
theorem dX9_lay_59 : decode cX9_lay 59 = .ok (.getfield 7, 3) := by decide +kernel
theorem dX9_lay_62 : decode cX9_lay 62 = .ok (.bipush 12, 2) := by decide +kernel
theorem dX9_lay_64 : decode cX9_lay 64 = .ok (.iload_n 1, 1) := by decide +kernel
theorem dX9_lay_65 : decode cX9_lay 65 = .ok (.iadd, 1) := by decide +kernel
theorem dX9_lay_66 : decode cX9_lay 66 = .ok (.iaload, 1) := by decide +kernel
theorem dX9_lay_67 : decode cX9_lay 67 = .ok (.if_icmp .ge 124, 3) := by decide +kernel
theorem dX9_lay_70 : decode cX9_lay 70 = .ok (.iload 4, 2) := by decide +kernel
theorem dX9_lay_72 : decode cX9_lay 72 = .ok (.iload_n 3, 1) := by decide +kernel
theorem dX9_lay_73 : decode cX9_lay 73 = .ok (.if_icmp .ge 118, 3) := by decide +kernel
theorem dX9_lay_76 : decode cX9_lay 76 = .ok (.aload_n 0, 1) := by decide +kernel
theorem dX9_lay_77 : decode cX9_lay 77 = .ok (.iload_n 1, 1) := by decide +kernel
theorem dX9_lay_78 : decode cX9_lay 78 = .ok (.iload 5, 2) := by decide +kernel
theorem dX9_lay_80 : decode cX9_lay 80 = .ok (.invokevirtual 58, 3) := by decide +kernel
theorem dX9_lay_83 : decode cX9_lay 83 = .ok (.ifCond .eq 108, 3) := by decide +kernel
theorem dX9_lay_86 : decode cX9_lay 86 = .ok (.aload_n 0, 1) := by decide +kernel
theorem dX9_lay_87 : decode cX9_lay 87 = .ok (.getfield 7, 3) := by decide +kernel
theorem dX9_lay_90 : decode cX9_lay 90 = .ok (.iconst 1, 1) := by decide +kernel
theorem dX9_lay_91 : decode cX9_lay 91 = .ok (.dup2, 1) := by decide +kernel
theorem dX9_lay_92 : decode cX9_lay 92 = .ok (.iaload, 1) := by decide +kernel
theorem dX9_lay_93 : decode cX9_lay 93 = .ok (.aload_n 0, 1) := by decide +kernel
theorem dX9_lay_94 : decode cX9_lay 94 = .ok (.iload_n 1, 1) := by decide +kernel
theorem dX9_lay_95 : decode cX9_lay 95 = .ok (.iload 5, 2) := by decide +kernel
theorem dX9_lay_97 : decode cX9_lay 97 = .ok (.invokevirtual 48, 3) := by decide +kernel
theorem dX9_lay_100 : decode cX9_lay 100 = .ok (.isub, 1) := by decide +kernel
theorem dX9_lay_101 : decode cX9_lay 101 = .ok (.iastore, 1) := by decide +kernel
theorem dX9_lay_102 : decode cX9_lay 102 = .ok (.aload_n 0, 1) := by decide +kernel
theorem dX9_lay_103 : decode cX9_lay 103 = .ok (.getfield 7, 3) := by decide +kernel
theorem dX9_lay_106 : decode cX9_lay 106 = .ok (.iconst 2, 1) := by decide +kernel
theorem dX9_lay_107 : decode cX9_lay 107 = .ok (.dup2, 1) := by decide +kernel
theorem dX9_lay_108 : decode cX9_lay 108 = .ok (.iaload, 1) := by decide +kernel
theorem dX9_lay_109 : decode cX9_lay 109 = .ok (.iconst 2, 1) := by decide +kernel
theorem dX9_lay_110 : decode cX9_lay 110 = .ok (.isub, 1) := by decide +kernel
theorem dX9_lay_111 : decode cX9_lay 111 = .ok (.iastore, 1) := by decide +kernel
theorem dX9_lay_112 : decode cX9_lay 112 = .ok (.aload_n 0, 1) := by decide +kernel
theorem dX9_lay_113 : decode cX9_lay 113 = .ok (.iload_n 1, 1) := by decide +kernel
theorem dX9_lay_114 : decode cX9_lay 114 = .ok (.iload 5, 2) := by decide +kernel
theorem dX9_lay_116 : decode cX9_lay 116 = .ok (.iconst 1, 1) := by decide +kernel
theorem dX9_lay_117 : decode cX9_lay 117 = .ok (.aload_n 0, 1) := by decide +kernel
theorem dX9_lay_118 : decode cX9_lay 118 = .ok (.iload_n 1, 1) := by decide +kernel
theorem dX9_lay_119 : decode cX9_lay 119 = .ok (.iload 5, 2) := by decide +kernel
theorem dX9_lay_121 : decode cX9_lay 121 = .ok (.invokevirtual 48, 3) := by decide +kernel
theorem dX9_lay_124 : decode cX9_lay 124 = .ok (.invokevirtual 25, 3) := by decide +kernel
theorem dX9_lay_127 : decode cX9_lay 127 = .ok (.aload_n 0, 1) := by decide +kernel
theorem dX9_lay_128 : decode cX9_lay 128 = .ok (.getfield 7, 3) := by decide +kernel
theorem dX9_lay_131 : decode cX9_lay 131 = .ok (.iconst 3, 1) := by decide +kernel
theorem dX9_lay_132 : decode cX9_lay 132 = .ok (.dup2, 1) := by decide +kernel
theorem dX9_lay_133 : decode cX9_lay 133 = .ok (.iaload, 1) := by decide +kernel
theorem dX9_lay_134 : decode cX9_lay 134 = .ok (.aload_n 0, 1) := by decide +kernel
theorem dX9_lay_135 : decode cX9_lay 135 = .ok (.iload_n 1, 1) := by decide +kernel
theorem dX9_lay_136 : decode cX9_lay 136 = .ok (.iconst 0, 1) := by decide +kernel
theorem dX9_lay_137 : decode cX9_lay 137 = .ok (.invokevirtual 64, 3) := by decide +kernel
theorem dX9_lay_140 : decode cX9_lay 140 = .ok (.aload_n 0, 1) := by decide +kernel
theorem dX9_lay_141 : decode cX9_lay 141 = .ok (.iload_n 1, 1) := by decide +kernel
theorem dX9_lay_142 : decode cX9_lay 142 = .ok (.iconst 1, 1) := by decide +kernel
theorem dX9_lay_143 : decode cX9_lay 143 = .ok (.invokevirtual 64, 3) := by decide +kernel
theorem dX9_lay_146 : decode cX9_lay 146 = .ok (.imul, 1) := by decide +kernel
theorem dX9_lay_147 : decode cX9_lay 147 = .ok (.iadd, 1) := by decide +kernel
theorem dX9_lay_148 : decode cX9_lay 148 = .ok (.iastore, 1) := by decide +kernel
theorem dX9_lay_149 : decode cX9_lay 149 = .ok (.aload_n 0, 1) := by decide +kernel
theorem dX9_lay_150 : decode cX9_lay 150 = .ok (.getfield 7, 3) := by decide +kernel
theorem dX9_lay_153 : decode cX9_lay 153 = .ok (.iconst 5, 1) := by decide +kernel
theorem dX9_lay_154 : decode cX9_lay 154 = .ok (.dup2, 1) := by decide +kernel
theorem dX9_lay_155 : decode cX9_lay 155 = .ok (.iaload, 1) := by decide +kernel
theorem dX9_lay_156 : decode cX9_lay 156 = .ok (.aload_n 0, 1) := by decide +kernel
theorem dX9_lay_157 : decode cX9_lay 157 = .ok (.iload_n 1, 1) := by decide +kernel
theorem dX9_lay_158 : decode cX9_lay 158 = .ok (.iconst 0, 1) := by decide +kernel
theorem dX9_lay_159 : decode cX9_lay 159 = .ok (.invokevirtual 64, 3) := by decide +kernel
theorem dX9_lay_162 : decode cX9_lay 162 = .ok (.aload_n 0, 1) := by decide +kernel
theorem dX9_lay_163 : decode cX9_lay 163 = .ok (.iload_n 1, 1) := by decide +kernel
theorem dX9_lay_164 : decode cX9_lay 164 = .ok (.iconst 1, 1) := by decide +kernel
theorem dX9_lay_165 : decode cX9_lay 165 = .ok (.invokevirtual 64, 3) := by decide +kernel
theorem dX9_lay_168 : decode cX9_lay 168 = .ok (.imul, 1) := by decide +kernel
theorem dX9_lay_169 : decode cX9_lay 169 = .ok (.iadd, 1) := by decide +kernel
theorem dX9_lay_170 : decode cX9_lay 170 = .ok (.iastore, 1) := by decide +kernel
theorem dX9_lay_171 : decode cX9_lay 171 = .ok (.aload_n 0, 1) := by decide +kernel
theorem dX9_lay_172 : decode cX9_lay 172 = .ok (.getfield 7, 3) := by decide +kernel
theorem dX9_lay_175 : decode cX9_lay 175 = .ok (.bipush 7, 2) := by decide +kernel
theorem dX9_lay_177 : decode cX9_lay 177 = .ok (.dup2, 1) := by decide +kernel
theorem dX9_lay_178 : decode cX9_lay 178 = .ok (.iaload, 1) := by decide +kernel
theorem dX9_lay_179 : decode cX9_lay 179 = .ok (.iconst 1, 1) := by decide +kernel
theorem dX9_lay_180 : decode cX9_lay 180 = .ok (.iadd, 1) := by decide +kernel
theorem dX9_lay_181 : decode cX9_lay 181 = .ok (.iastore, 1) := by decide +kernel
theorem dX9_lay_182 : decode cX9_lay 182 = .ok (.iinc 4 1, 3) := by decide +kernel
theorem dX9_lay_185 : decode cX9_lay 185 = .ok (.iinc 5 1, 3) := by decide +kernel
theorem dX9_lay_188 : decode cX9_lay 188 = .ok (.goto (-132), 3) := by decide +kernel
theorem dX9_lay_191 : decode cX9_lay 191 = .ok (.aload_n 0, 1) := by decide +kernel
theorem dX9_lay_192 : decode cX9_lay 192 = .ok (.iload_n 1, 1) := by decide +kernel
theorem dX9_lay_193 : decode cX9_lay 193 = .ok (.invokevirtual 67, 3) := by decide +kernel
theorem dX9_lay_196 : decode cX9_lay 196 = .ok (.aload_n 0, 1) := by decide +kernel
theorem dX9_lay_197 : decode cX9_lay 197 = .ok (.iload 4, 2) := by decide +kernel
theorem dX9_lay_199 : decode cX9_lay 199 = .ok (.invokevirtual 71, 3) := by decide +kernel
theorem dX9_lay_202 : decode cX9_lay 202 = .ok (.ireturn, 1) := by decide +kernel
theorem dX9_cut_0 : decode cX9_cut 0 = .ok (.aload_n 0, 1) := by decide +kernel
theorem dX9_cut_1 : decode cX9_cut 1 = .ok (.iload_n 1, 1) := by decide +kernel
theorem dX9_cut_2 : decode cX9_cut 2 = .ok (.iload_n 2, 1) := by decide +kernel
theorem dX9_cut_3 : decode cX9_cut 3 = .ok (.invokevirtual 51, 3) := by decide +kernel
theorem dX9_cut_6 : decode cX9_cut 6 = .ok (.ifCond .ne 5, 3) := by decide +kernel
theorem dX9_cut_9 : decode cX9_cut 9 = .ok (.iconst (-1), 1) := by decide +kernel
theorem dX9_cut_10 : decode cX9_cut 10 = .ok (.ireturn, 1) := by decide +kernel
theorem dX9_cut_11 : decode cX9_cut 11 = .ok (.aload_n 0, 1) := by decide +kernel
theorem dX9_cut_12 : decode cX9_cut 12 = .ok (.iload_n 1, 1) := by decide +kernel
theorem dX9_cut_13 : decode cX9_cut 13 = .ok (.iload_n 2, 1) := by decide +kernel
theorem dX9_cut_14 : decode cX9_cut 14 = .ok (.invokevirtual 48, 3) := by decide +kernel
theorem dX9_cut_17 : decode cX9_cut 17 = .ok (.istore_n 3, 1) := by decide +kernel
theorem dX9_cut_18 : decode cX9_cut 18 = .ok (.aload_n 0, 1) := by decide +kernel
theorem dX9_cut_19 : decode cX9_cut 19 = .ok (.aload_n 0, 1) := by decide +kernel
theorem dX9_cut_20 : decode cX9_cut 20 = .ok (.getfield 7, 3) := by decide +kernel
theorem dX9_cut_23 : decode cX9_cut 23 = .ok (.iconst 0, 1) := by decide +kernel
theorem dX9_cut_24 : decode cX9_cut 24 = .ok (.iaload, 1) := by decide +kernel
theorem dX9_cut_25 : decode cX9_cut 25 = .ok (.invokevirtual 55, 3) := by decide +kernel
theorem dX9_cut_28 : decode cX9_cut 28 = .ok (.ifCond .ne 27, 3) := by decide +kernel
theorem dX9_cut_31 : decode cX9_cut 31 = .ok (.aload_n 0, 1) := by decide +kernel
theorem dX9_cut_32 : decode cX9_cut 32 = .ok (.iload_n 1, 1) := by decide +kernel
theorem dX9_cut_33 : decode cX9_cut 33 = .ok (.iload_n 2, 1) := by decide +kernel
theorem dX9_cut_34 : decode cX9_cut 34 = .ok (.invokevirtual 37, 3) := by decide +kernel
theorem dX9_cut_37 : decode cX9_cut 37 = .ok (.ifCond .ne 18, 3) := by decide +kernel
theorem dX9_cut_40 : decode cX9_cut 40 = .ok (.iload_n 3, 1) := by decide +kernel
theorem dX9_cut_41 : decode cX9_cut 41 = .ok (.iconst 3, 1) := by decide +kernel
theorem dX9_cut_42 : decode cX9_cut 42 = .ok (.if_icmp .lt 13, 3) := by decide +kernel
theorem dX9_cut_45 : decode cX9_cut 45 = .ok (.aload_n 0, 1) := by decide +kernel
theorem dX9_cut_46 : decode cX9_cut 46 = .ok (.getfield 7, 3) := by decide +kernel
theorem dX9_cut_49 : decode cX9_cut 49 = .ok (.iconst 1, 1) := by decide +kernel
theorem dX9_cut_50 : decode cX9_cut 50 = .ok (.iaload, 1) := by decide +kernel
theorem dX9_cut_51 : decode cX9_cut 51 = .ok (.iconst 1, 1) := by decide +kernel
theorem dX9_cut_52 : decode cX9_cut 52 = .ok (.if_icmp .ge 6, 3) := by decide +kernel
theorem dX9_cut_55 : decode cX9_cut 55 = .ok (.bipush (-2), 2) := by decide +kernel
theorem dX9_cut_57 : decode cX9_cut 57 = .ok (.ireturn, 1) := by decide +kernel
theorem dX9_cut_58 : decode cX9_cut 58 = .ok (.aload_n 0, 1) := by decide +kernel
theorem dX9_cut_59 : decode cX9_cut 59 = .ok (.invokevirtual 61, 3) := by decide +kernel
theorem dX9_cut_62 : decode cX9_cut 62 = .ok (.aload_n 0, 1) := by decide +kernel
theorem dX9_cut_63 : decode cX9_cut 63 = .ok (.getfield 7, 3) := by decide +kernel
theorem dX9_cut_66 : decode cX9_cut 66 = .ok (.iconst 2, 1) := by decide +kernel
theorem dX9_cut_67 : decode cX9_cut 67 = .ok (.dup2, 1) := by decide +kernel
theorem dX9_cut_68 : decode cX9_cut 68 = .ok (.iaload, 1) := by decide +kernel
theorem dX9_cut_69 : decode cX9_cut 69 = .ok (.iload_n 3, 1) := by decide +kernel
theorem dX9_cut_70 : decode cX9_cut 70 = .ok (.iadd, 1) := by decide +kernel
theorem dX9_cut_71 : decode cX9_cut 71 = .ok (.iastore, 1) := by decide +kernel
theorem dX9_cut_72 : decode cX9_cut 72 = .ok (.aload_n 0, 1) := by decide +kernel
theorem dX9_cut_73 : decode cX9_cut 73 = .ok (.iload_n 1, 1) := by decide +kernel
theorem dX9_cut_74 : decode cX9_cut 74 = .ok (.iload_n 2, 1) := by decide +kernel
theorem dX9_cut_75 : decode cX9_cut 75 = .ok (.iconst 0, 1) := by decide +kernel
theorem dX9_cut_76 : decode cX9_cut 76 = .ok (.iload_n 3, 1) := by decide +kernel
theorem dX9_cut_77 : decode cX9_cut 77 = .ok (.iconst 2, 1) := by decide +kernel
theorem dX9_cut_78 : decode cX9_cut 78 = .ok (.isub, 1) := by decide +kernel
theorem dX9_cut_79 : decode cX9_cut 79 = .ok (.invokevirtual 25, 3) := by decide +kernel
theorem dX9_cut_82 : decode cX9_cut 82 = .ok (.aload_n 0, 1) := by decide +kernel
theorem dX9_cut_83 : decode cX9_cut 83 = .ok (.getfield 7, 3) := by decide +kernel
theorem dX9_cut_86 : decode cX9_cut 86 = .ok (.iconst 1, 1) := by decide +kernel
theorem dX9_cut_87 : decode cX9_cut 87 = .ok (.dup2, 1) := by decide +kernel
theorem dX9_cut_88 : decode cX9_cut 88 = .ok (.iaload, 1) := by decide +kernel
theorem dX9_cut_89 : decode cX9_cut 89 = .ok (.iconst 1, 1) := by decide +kernel
theorem dX9_cut_90 : decode cX9_cut 90 = .ok (.isub, 1) := by decide +kernel
theorem dX9_cut_91 : decode cX9_cut 91 = .ok (.iastore, 1) := by decide +kernel
theorem dX9_cut_92 : decode cX9_cut 92 = .ok (.aload_n 0, 1) := by decide +kernel
theorem dX9_cut_93 : decode cX9_cut 93 = .ok (.aload_n 0, 1) := by decide +kernel
theorem dX9_cut_94 : decode cX9_cut 94 = .ok (.getfield 7, 3) := by decide +kernel
theorem dX9_cut_97 : decode cX9_cut 97 = .ok (.iconst 2, 1) := by decide +kernel
theorem dX9_cut_98 : decode cX9_cut 98 = .ok (.iaload, 1) := by decide +kernel
theorem dX9_cut_99 : decode cX9_cut 99 = .ok (.invokevirtual 71, 3) := by decide +kernel
theorem dX9_cut_102 : decode cX9_cut 102 = .ok (.ireturn, 1) := by decide +kernel
theorem dX9_plant_0 : decode cX9_plant 0 = .ok (.aload_n 0, 1) := by decide +kernel
theorem dX9_plant_1 : decode cX9_plant 1 = .ok (.iload_n 1, 1) := by decide +kernel
theorem dX9_plant_2 : decode cX9_plant 2 = .ok (.iload_n 2, 1) := by decide +kernel
theorem dX9_plant_3 : decode cX9_plant 3 = .ok (.invokevirtual 51, 3) := by decide +kernel
theorem dX9_plant_6 : decode cX9_plant 6 = .ok (.ifCond .ne 5, 3) := by decide +kernel
theorem dX9_plant_9 : decode cX9_plant 9 = .ok (.iconst (-1), 1) := by decide +kernel
theorem dX9_plant_10 : decode cX9_plant 10 = .ok (.ireturn, 1) := by decide +kernel
theorem dX9_plant_11 : decode cX9_plant 11 = .ok (.aload_n 0, 1) := by decide +kernel
theorem dX9_plant_12 : decode cX9_plant 12 = .ok (.iload_n 1, 1) := by decide +kernel
theorem dX9_plant_13 : decode cX9_plant 13 = .ok (.iload_n 2, 1) := by decide +kernel
theorem dX9_plant_14 : decode cX9_plant 14 = .ok (.invokevirtual 37, 3) := by decide +kernel
theorem dX9_plant_17 : decode cX9_plant 17 = .ok (.iconst 2, 1) := by decide +kernel
theorem dX9_plant_18 : decode cX9_plant 18 = .ok (.if_icmp .ne 23, 3) := by decide +kernel
theorem dX9_plant_21 : decode cX9_plant 21 = .ok (.aload_n 0, 1) := by decide +kernel
theorem dX9_plant_22 : decode cX9_plant 22 = .ok (.getfield 7, 3) := by decide +kernel
theorem dX9_plant_25 : decode cX9_plant 25 = .ok (.iconst 1, 1) := by decide +kernel
theorem dX9_plant_26 : decode cX9_plant 26 = .ok (.iaload, 1) := by decide +kernel
theorem dX9_plant_27 : decode cX9_plant 27 = .ok (.iconst 2, 1) := by decide +kernel
theorem dX9_plant_28 : decode cX9_plant 28 = .ok (.if_icmp .lt 13, 3) := by decide +kernel
theorem dX9_plant_31 : decode cX9_plant 31 = .ok (.aload_n 0, 1) := by decide +kernel
theorem dX9_plant_32 : decode cX9_plant 32 = .ok (.getfield 7, 3) := by decide +kernel
theorem dX9_plant_35 : decode cX9_plant 35 = .ok (.iconst 3, 1) := by decide +kernel
theorem dX9_plant_36 : decode cX9_plant 36 = .ok (.iaload, 1) := by decide +kernel
theorem dX9_plant_37 : decode cX9_plant 37 = .ok (.iconst 3, 1) := by decide +kernel
theorem dX9_plant_38 : decode cX9_plant 38 = .ok (.if_icmp .ge 6, 3) := by decide +kernel
theorem dX9_plant_41 : decode cX9_plant 41 = .ok (.bipush (-2), 2) := by decide +kernel
theorem dX9_plant_43 : decode cX9_plant 43 = .ok (.ireturn, 1) := by decide +kernel
theorem dX9_plant_44 : decode cX9_plant 44 = .ok (.aload_n 0, 1) := by decide +kernel
theorem dX9_plant_45 : decode cX9_plant 45 = .ok (.invokevirtual 61, 3) := by decide +kernel
theorem dX9_plant_48 : decode cX9_plant 48 = .ok (.aload_n 0, 1) := by decide +kernel
theorem dX9_plant_49 : decode cX9_plant 49 = .ok (.getfield 7, 3) := by decide +kernel
theorem dX9_plant_52 : decode cX9_plant 52 = .ok (.iconst 1, 1) := by decide +kernel
theorem dX9_plant_53 : decode cX9_plant 53 = .ok (.dup2, 1) := by decide +kernel
theorem dX9_plant_54 : decode cX9_plant 54 = .ok (.iaload, 1) := by decide +kernel
theorem dX9_plant_55 : decode cX9_plant 55 = .ok (.iconst 2, 1) := by decide +kernel
theorem dX9_plant_56 : decode cX9_plant 56 = .ok (.isub, 1) := by decide +kernel
theorem dX9_plant_57 : decode cX9_plant 57 = .ok (.iastore, 1) := by decide +kernel
theorem dX9_plant_58 : decode cX9_plant 58 = .ok (.aload_n 0, 1) := by decide +kernel
theorem dX9_plant_59 : decode cX9_plant 59 = .ok (.getfield 7, 3) := by decide +kernel
theorem dX9_plant_62 : decode cX9_plant 62 = .ok (.iconst 3, 1) := by decide +kernel
theorem dX9_plant_63 : decode cX9_plant 63 = .ok (.dup2, 1) := by decide +kernel
theorem dX9_plant_64 : decode cX9_plant 64 = .ok (.iaload, 1) := by decide +kernel
theorem dX9_plant_65 : decode cX9_plant 65 = .ok (.iconst 3, 1) := by decide +kernel
theorem dX9_plant_66 : decode cX9_plant 66 = .ok (.isub, 1) := by decide +kernel
theorem dX9_plant_67 : decode cX9_plant 67 = .ok (.iastore, 1) := by decide +kernel
theorem dX9_plant_68 : decode cX9_plant 68 = .ok (.aload_n 0, 1) := by decide +kernel
theorem dX9_plant_69 : decode cX9_plant 69 = .ok (.iload_n 1, 1) := by decide +kernel
theorem dX9_plant_70 : decode cX9_plant 70 = .ok (.iload_n 2, 1) := by decide +kernel
theorem dX9_plant_71 : decode cX9_plant 71 = .ok (.iconst 3, 1) := by decide +kernel
theorem dX9_plant_72 : decode cX9_plant 72 = .ok (.iconst 0, 1) := by decide +kernel
theorem dX9_plant_73 : decode cX9_plant 73 = .ok (.invokevirtual 25, 3) := by decide +kernel
theorem dX9_plant_76 : decode cX9_plant 76 = .ok (.aload_n 0, 1) := by decide +kernel
theorem dX9_plant_77 : decode cX9_plant 77 = .ok (.getfield 7, 3) := by decide +kernel
theorem dX9_plant_80 : decode cX9_plant 80 = .ok (.bipush 8, 2) := by decide +kernel
theorem dX9_plant_82 : decode cX9_plant 82 = .ok (.dup2, 1) := by decide +kernel
theorem dX9_plant_83 : decode cX9_plant 83 = .ok (.iaload, 1) := by decide +kernel
theorem dX9_plant_84 : decode cX9_plant 84 = .ok (.iconst 1, 1) := by decide +kernel
theorem dX9_plant_85 : decode cX9_plant 85 = .ok (.iadd, 1) := by decide +kernel
theorem dX9_plant_86 : decode cX9_plant 86 = .ok (.iastore, 1) := by decide +kernel
theorem dX9_plant_87 : decode cX9_plant 87 = .ok (.aload_n 0, 1) := by decide +kernel
theorem dX9_plant_88 : decode cX9_plant 88 = .ok (.aload_n 0, 1) := by decide +kernel
theorem dX9_plant_89 : decode cX9_plant 89 = .ok (.getfield 7, 3) := by decide +kernel
theorem dX9_plant_92 : decode cX9_plant 92 = .ok (.iconst 1, 1) := by decide +kernel
theorem dX9_plant_93 : decode cX9_plant 93 = .ok (.iaload, 1) := by decide +kernel
theorem dX9_plant_94 : decode cX9_plant 94 = .ok (.invokevirtual 71, 3) := by decide +kernel
theorem dX9_plant_97 : decode cX9_plant 97 = .ok (.ireturn, 1) := by decide +kernel
theorem dX9_grub_0 : decode cX9_grub 0 = .ok (.aload_n 0, 1) := by decide +kernel
theorem dX9_grub_1 : decode cX9_grub 1 = .ok (.iload_n 1, 1) := by decide +kernel
theorem dX9_grub_2 : decode cX9_grub 2 = .ok (.iload_n 2, 1) := by decide +kernel
theorem dX9_grub_3 : decode cX9_grub 3 = .ok (.invokevirtual 51, 3) := by decide +kernel
theorem dX9_grub_6 : decode cX9_grub 6 = .ok (.ifCond .ne 5, 3) := by decide +kernel
theorem dX9_grub_9 : decode cX9_grub 9 = .ok (.iconst (-1), 1) := by decide +kernel
theorem dX9_grub_10 : decode cX9_grub 10 = .ok (.ireturn, 1) := by decide +kernel
theorem dX9_grub_11 : decode cX9_grub 11 = .ok (.aload_n 0, 1) := by decide +kernel
theorem dX9_grub_12 : decode cX9_grub 12 = .ok (.iload_n 1, 1) := by decide +kernel
theorem dX9_grub_13 : decode cX9_grub 13 = .ok (.iload_n 2, 1) := by decide +kernel
theorem dX9_grub_14 : decode cX9_grub 14 = .ok (.invokevirtual 37, 3) := by decide +kernel
theorem dX9_grub_17 : decode cX9_grub 17 = .ok (.istore_n 3, 1) := by decide +kernel
theorem dX9_grub_18 : decode cX9_grub 18 = .ok (.iload_n 3, 1) := by decide +kernel
theorem dX9_grub_19 : decode cX9_grub 19 = .ok (.iconst 2, 1) := by decide +kernel
theorem dX9_grub_20 : decode cX9_grub 20 = .ok (.if_icmp .ne 6, 3) := by decide +kernel
theorem dX9_grub_23 : decode cX9_grub 23 = .ok (.bipush (-2), 2) := by decide +kernel
theorem dX9_grub_25 : decode cX9_grub 25 = .ok (.ireturn, 1) := by decide +kernel
theorem dX9_grub_26 : decode cX9_grub 26 = .ok (.aload_n 0, 1) := by decide +kernel
theorem dX9_grub_27 : decode cX9_grub 27 = .ok (.invokevirtual 61, 3) := by decide +kernel
theorem dX9_grub_30 : decode cX9_grub 30 = .ok (.aload_n 0, 1) := by decide +kernel
theorem dX9_grub_31 : decode cX9_grub 31 = .ok (.iload_n 1, 1) := by decide +kernel
theorem dX9_grub_32 : decode cX9_grub 32 = .ok (.iload_n 2, 1) := by decide +kernel
theorem dX9_grub_33 : decode cX9_grub 33 = .ok (.iconst 2, 1) := by decide +kernel
theorem dX9_grub_34 : decode cX9_grub 34 = .ok (.iconst 0, 1) := by decide +kernel
theorem dX9_grub_35 : decode cX9_grub 35 = .ok (.invokevirtual 25, 3) := by decide +kernel
theorem dX9_grub_38 : decode cX9_grub 38 = .ok (.aload_n 0, 1) := by decide +kernel
theorem dX9_grub_39 : decode cX9_grub 39 = .ok (.iload_n 1, 1) := by decide +kernel
theorem dX9_grub_40 : decode cX9_grub 40 = .ok (.invokevirtual 67, 3) := by decide +kernel
theorem dX9_grub_43 : decode cX9_grub 43 = .ok (.aload_n 0, 1) := by decide +kernel
theorem dX9_grub_44 : decode cX9_grub 44 = .ok (.iload_n 3, 1) := by decide +kernel
theorem dX9_grub_45 : decode cX9_grub 45 = .ok (.invokevirtual 71, 3) := by decide +kernel
theorem dX9_grub_48 : decode cX9_grub 48 = .ok (.ireturn, 1) := by decide +kernel
theorem dX9_grows_0 : decode cX9_grows 0 = .ok (.aload_n 0, 1) := by decide +kernel
theorem dX9_grows_1 : decode cX9_grows 1 = .ok (.iload_n 1, 1) := by decide +kernel
theorem dX9_grows_2 : decode cX9_grows 2 = .ok (.iload_n 2, 1) := by decide +kernel
theorem dX9_grows_3 : decode cX9_grows 3 = .ok (.invokevirtual 37, 3) := by decide +kernel
theorem dX9_grows_6 : decode cX9_grows 6 = .ok (.istore_n 3, 1) := by decide +kernel
theorem dX9_grows_7 : decode cX9_grows 7 = .ok (.aload_n 0, 1) := by decide +kernel
theorem dX9_grows_8 : decode cX9_grows 8 = .ok (.iload_n 1, 1) := by decide +kernel
theorem dX9_grows_9 : decode cX9_grows 9 = .ok (.iload_n 2, 1) := by decide +kernel
theorem dX9_grows_10 : decode cX9_grows 10 = .ok (.invokevirtual 48, 3) := by decide +kernel
theorem dX9_grows_13 : decode cX9_grows 13 = .ok (.istore 4, 2) := by decide +kernel
theorem dX9_grows_15 : decode cX9_grows 15 = .ok (.iload_n 3, 1) := by decide +kernel
theorem dX9_grows_16 : decode cX9_grows 16 = .ok (.iconst 3, 1) := by decide +kernel
theorem dX9_grows_17 : decode cX9_grows 17 = .ok (.if_icmp .ne 24, 3) := by decide +kernel
theorem dX9_grows_20 : decode cX9_grows 20 = .ok (.aload_n 0, 1) := by decide +kernel
theorem dX9_grows_21 : decode cX9_grows 21 = .ok (.iload_n 1, 1) := by decide +kernel
theorem dX9_grows_22 : decode cX9_grows 22 = .ok (.iload_n 2, 1) := by decide +kernel
theorem dX9_grows_23 : decode cX9_grows 23 = .ok (.invokevirtual 75, 3) := by decide +kernel
theorem dX9_grows_26 : decode cX9_grows 26 = .ok (.iconst 5, 1) := by decide +kernel
theorem dX9_grows_27 : decode cX9_grows 27 = .ok (.if_icmp .ne 14, 3) := by decide +kernel
theorem dX9_grows_30 : decode cX9_grows 30 = .ok (.aload_n 0, 1) := by decide +kernel
theorem dX9_grows_31 : decode cX9_grows 31 = .ok (.iload_n 1, 1) := by decide +kernel
theorem dX9_grows_32 : decode cX9_grows 32 = .ok (.iload_n 2, 1) := by decide +kernel
theorem dX9_grows_33 : decode cX9_grows 33 = .ok (.iconst 0, 1) := by decide +kernel
theorem dX9_grows_34 : decode cX9_grows 34 = .ok (.iconst 1, 1) := by decide +kernel
theorem dX9_grows_35 : decode cX9_grows 35 = .ok (.invokevirtual 25, 3) := by decide +kernel
theorem dX9_grows_38 : decode cX9_grows 38 = .ok (.goto 122, 3) := by decide +kernel
theorem dX9_grows_41 : decode cX9_grows 41 = .ok (.iload_n 3, 1) := by decide +kernel
theorem dX9_grows_42 : decode cX9_grows 42 = .ok (.iconst 3, 1) := by decide +kernel
theorem dX9_grows_43 : decode cX9_grows 43 = .ok (.if_icmp .ne 25, 3) := by decide +kernel
theorem dX9_grows_46 : decode cX9_grows 46 = .ok (.aload_n 0, 1) := by decide +kernel
theorem dX9_grows_47 : decode cX9_grows 47 = .ok (.getfield 7, 3) := by decide +kernel
theorem dX9_grows_50 : decode cX9_grows 50 = .ok (.bipush 42, 2) := by decide +kernel
theorem dX9_grows_52 : decode cX9_grows 52 = .ok (.bipush 30, 2) := by decide +kernel
theorem dX9_grows_54 : decode cX9_grows 54 = .ok (.iload_n 1, 1) := by decide +kernel
theorem dX9_grows_55 : decode cX9_grows 55 = .ok (.imul, 1) := by decide +kernel
theorem dX9_grows_56 : decode cX9_grows 56 = .ok (.iadd, 1) := by decide +kernel
theorem dX9_grows_57 : decode cX9_grows 57 = .ok (.iload_n 2, 1) := by decide +kernel
theorem dX9_grows_58 : decode cX9_grows 58 = .ok (.iadd, 1) := by decide +kernel
theorem dX9_grows_59 : decode cX9_grows 59 = .ok (.dup2, 1) := by decide +kernel
theorem dX9_grows_60 : decode cX9_grows 60 = .ok (.iaload, 1) := by decide +kernel
theorem dX9_grows_61 : decode cX9_grows 61 = .ok (.bipush 64, 2) := by decide +kernel
theorem dX9_grows_63 : decode cX9_grows 63 = .ok (.iadd, 1) := by decide +kernel
theorem dX9_grows_64 : decode cX9_grows 64 = .ok (.iastore, 1) := by decide +kernel
theorem dX9_grows_65 : decode cX9_grows 65 = .ok (.goto 95, 3) := by decide +kernel
theorem dX9_grows_68 : decode cX9_grows 68 = .ok (.iload_n 3, 1) := by decide +kernel
theorem dX9_grows_69 : decode cX9_grows 69 = .ok (.ifCond .ne 40, 3) := by decide +kernel
theorem dX9_grows_72 : decode cX9_grows 72 = .ok (.aload_n 0, 1) := by decide +kernel
theorem dX9_grows_73 : decode cX9_grows 73 = .ok (.getfield 7, 3) := by decide +kernel
theorem dX9_grows_76 : decode cX9_grows 76 = .ok (.iconst 0, 1) := by decide +kernel
theorem dX9_grows_77 : decode cX9_grows 77 = .ok (.iaload, 1) := by decide +kernel
theorem dX9_grows_78 : decode cX9_grows 78 = .ok (.iconst 4, 1) := by decide +kernel
theorem dX9_grows_79 : decode cX9_grows 79 = .ok (.irem, 1) := by decide +kernel
theorem dX9_grows_80 : decode cX9_grows 80 = .ok (.ifCond .ne 29, 3) := by decide +kernel
theorem dX9_grows_83 : decode cX9_grows 83 = .ok (.aload_n 0, 1) := by decide +kernel
theorem dX9_grows_84 : decode cX9_grows 84 = .ok (.iload_n 1, 1) := by decide +kernel
theorem dX9_grows_85 : decode cX9_grows 85 = .ok (.iload_n 2, 1) := by decide +kernel
theorem dX9_grows_86 : decode cX9_grows 86 = .ok (.iconst 0, 1) := by decide +kernel
theorem dX9_grows_87 : decode cX9_grows 87 = .ok (.iload 4, 2) := by decide +kernel
theorem dX9_grows_89 : decode cX9_grows 89 = .ok (.bipush 9, 2) := by decide +kernel
theorem dX9_grows_91 : decode cX9_grows 91 = .ok (.if_icmp .ge 10, 3) := by decide +kernel
theorem dX9_grows_94 : decode cX9_grows 94 = .ok (.iload 4, 2) := by decide +kernel
theorem dX9_grows_96 : decode cX9_grows 96 = .ok (.iconst 1, 1) := by decide +kernel
theorem dX9_grows_97 : decode cX9_grows 97 = .ok (.iadd, 1) := by decide +kernel
theorem dX9_grows_98 : decode cX9_grows 98 = .ok (.goto 5, 3) := by decide +kernel
theorem dX9_grows_101 : decode cX9_grows 101 = .ok (.bipush 9, 2) := by decide +kernel
theorem dX9_grows_103 : decode cX9_grows 103 = .ok (.invokevirtual 25, 3) := by decide +kernel
theorem dX9_grows_106 : decode cX9_grows 106 = .ok (.goto 54, 3) := by decide +kernel
theorem dX9_grows_109 : decode cX9_grows 109 = .ok (.iload_n 3, 1) := by decide +kernel
theorem dX9_grows_110 : decode cX9_grows 110 = .ok (.iconst 1, 1) := by decide +kernel
theorem dX9_grows_111 : decode cX9_grows 111 = .ok (.if_icmp .ne 49, 3) := by decide +kernel
theorem dX9_grows_114 : decode cX9_grows 114 = .ok (.aload_n 0, 1) := by decide +kernel
theorem dX9_grows_115 : decode cX9_grows 115 = .ok (.getfield 7, 3) := by decide +kernel
theorem dX9_grows_118 : decode cX9_grows 118 = .ok (.iconst 0, 1) := by decide +kernel
theorem dX9_grows_119 : decode cX9_grows 119 = .ok (.iaload, 1) := by decide +kernel
theorem dX9_grows_120 : decode cX9_grows 120 = .ok (.bipush 52, 2) := by decide +kernel
theorem dX9_grows_122 : decode cX9_grows 122 = .ok (.irem, 1) := by decide +kernel
theorem dX9_grows_123 : decode cX9_grows 123 = .ok (.ifCond .ne 37, 3) := by decide +kernel
theorem dX9_grows_126 : decode cX9_grows 126 = .ok (.aload_n 0, 1) := by decide +kernel
theorem dX9_grows_127 : decode cX9_grows 127 = .ok (.iload_n 1, 1) := by decide +kernel
theorem dX9_grows_128 : decode cX9_grows 128 = .ok (.iload_n 2, 1) := by decide +kernel
theorem dX9_grows_129 : decode cX9_grows 129 = .ok (.iload 4, 2) := by decide +kernel
theorem dX9_grows_131 : decode cX9_grows 131 = .ok (.bipush 7, 2) := by decide +kernel
theorem dX9_grows_133 : decode cX9_grows 133 = .ok (.if_icmp .le 7, 3) := by decide +kernel
theorem dX9_grows_136 : decode cX9_grows 136 = .ok (.iconst 0, 1) := by decide +kernel
theorem dX9_grows_137 : decode cX9_grows 137 = .ok (.goto 4, 3) := by decide +kernel
theorem dX9_grows_140 : decode cX9_grows 140 = .ok (.iconst 1, 1) := by decide +kernel
theorem dX9_grows_141 : decode cX9_grows 141 = .ok (.iload 4, 2) := by decide +kernel
theorem dX9_grows_143 : decode cX9_grows 143 = .ok (.bipush 7, 2) := by decide +kernel
theorem dX9_grows_145 : decode cX9_grows 145 = .ok (.if_icmp .le 8, 3) := by decide +kernel
theorem dX9_grows_148 : decode cX9_grows 148 = .ok (.bipush 9, 2) := by decide +kernel
theorem dX9_grows_150 : decode cX9_grows 150 = .ok (.goto 7, 3) := by decide +kernel
theorem dX9_grows_153 : decode cX9_grows 153 = .ok (.iload 4, 2) := by decide +kernel
theorem dX9_grows_155 : decode cX9_grows 155 = .ok (.iconst 2, 1) := by decide +kernel
theorem dX9_grows_156 : decode cX9_grows 156 = .ok (.iadd, 1) := by decide +kernel
theorem dX9_grows_157 : decode cX9_grows 157 = .ok (.invokevirtual 25, 3) := by decide +kernel
theorem dX9_grows_160 : decode cX9_grows 160 = .ok (.return_, 1) := by decide +kernel
theorem dX9_pays_0 : decode cX9_pays 0 = .ok (.aload_n 0, 1) := by decide +kernel
theorem dX9_pays_1 : decode cX9_pays 1 = .ok (.getfield 7, 3) := by decide +kernel
theorem dX9_pays_4 : decode cX9_pays 4 = .ok (.iconst 3, 1) := by decide +kernel
theorem dX9_pays_5 : decode cX9_pays 5 = .ok (.iaload, 1) := by decide +kernel
theorem dX9_pays_6 : decode cX9_pays 6 = .ok (.iload_n 1, 1) := by decide +kernel
theorem dX9_pays_7 : decode cX9_pays 7 = .ok (.if_icmp .ge 12, 3) := by decide +kernel
theorem dX9_pays_10 : decode cX9_pays 10 = .ok (.aload_n 0, 1) := by decide +kernel
theorem dX9_pays_11 : decode cX9_pays 11 = .ok (.getfield 7, 3) := by decide +kernel
theorem dX9_pays_14 : decode cX9_pays 14 = .ok (.iconst 3, 1) := by decide +kernel
theorem dX9_pays_15 : decode cX9_pays 15 = .ok (.iaload, 1) := by decide +kernel
theorem dX9_pays_16 : decode cX9_pays 16 = .ok (.goto 4, 3) := by decide +kernel
theorem dX9_pays_19 : decode cX9_pays 19 = .ok (.iload_n 1, 1) := by decide +kernel
theorem dX9_pays_20 : decode cX9_pays 20 = .ok (.istore_n 2, 1) := by decide +kernel
theorem dX9_pays_21 : decode cX9_pays 21 = .ok (.aload_n 0, 1) := by decide +kernel
theorem dX9_pays_22 : decode cX9_pays 22 = .ok (.getfield 7, 3) := by decide +kernel
theorem dX9_pays_25 : decode cX9_pays 25 = .ok (.iconst 3, 1) := by decide +kernel
theorem dX9_pays_26 : decode cX9_pays 26 = .ok (.dup2, 1) := by decide +kernel
theorem dX9_pays_27 : decode cX9_pays 27 = .ok (.iaload, 1) := by decide +kernel
theorem dX9_pays_28 : decode cX9_pays 28 = .ok (.iload_n 2, 1) := by decide +kernel
theorem dX9_pays_29 : decode cX9_pays 29 = .ok (.isub, 1) := by decide +kernel
theorem dX9_pays_30 : decode cX9_pays 30 = .ok (.iastore, 1) := by decide +kernel
theorem dX9_pays_31 : decode cX9_pays 31 = .ok (.aload_n 0, 1) := by decide +kernel
theorem dX9_pays_32 : decode cX9_pays 32 = .ok (.getfield 7, 3) := by decide +kernel
theorem dX9_pays_35 : decode cX9_pays 35 = .ok (.iconst 4, 1) := by decide +kernel
theorem dX9_pays_36 : decode cX9_pays 36 = .ok (.dup2, 1) := by decide +kernel
theorem dX9_pays_37 : decode cX9_pays 37 = .ok (.iaload, 1) := by decide +kernel
theorem dX9_pays_38 : decode cX9_pays 38 = .ok (.iload_n 1, 1) := by decide +kernel
theorem dX9_pays_39 : decode cX9_pays 39 = .ok (.iload_n 2, 1) := by decide +kernel
theorem dX9_pays_40 : decode cX9_pays 40 = .ok (.isub, 1) := by decide +kernel
theorem dX9_pays_41 : decode cX9_pays 41 = .ok (.iadd, 1) := by decide +kernel
theorem dX9_pays_42 : decode cX9_pays 42 = .ok (.iastore, 1) := by decide +kernel
theorem dX9_pays_43 : decode cX9_pays 43 = .ok (.return_, 1) := by decide +kernel
theorem dX9_passesOne_0 : decode cX9_passesOne 0 = .ok (.aload_n 0, 1) := by decide +kernel
theorem dX9_passesOne_1 : decode cX9_passesOne 1 = .ok (.getfield 7, 3) := by decide +kernel
theorem dX9_passesOne_4 : decode cX9_passesOne 4 = .ok (.iconst 0, 1) := by decide +kernel
theorem dX9_passesOne_5 : decode cX9_passesOne 5 = .ok (.dup2, 1) := by decide +kernel
theorem dX9_passesOne_6 : decode cX9_passesOne 6 = .ok (.iaload, 1) := by decide +kernel
theorem dX9_passesOne_7 : decode cX9_passesOne 7 = .ok (.iconst 1, 1) := by decide +kernel
theorem dX9_passesOne_8 : decode cX9_passesOne 8 = .ok (.iadd, 1) := by decide +kernel
theorem dX9_passesOne_9 : decode cX9_passesOne 9 = .ok (.iastore, 1) := by decide +kernel
theorem dX9_passesOne_10 : decode cX9_passesOne 10 = .ok (.aload_n 0, 1) := by decide +kernel
theorem dX9_passesOne_11 : decode cX9_passesOne 11 = .ok (.getfield 7, 3) := by decide +kernel
theorem dX9_passesOne_14 : decode cX9_passesOne 14 = .ok (.iconst 1, 1) := by decide +kernel
theorem dX9_passesOne_15 : decode cX9_passesOne 15 = .ok (.aload_n 0, 1) := by decide +kernel
theorem dX9_passesOne_16 : decode cX9_passesOne 16 = .ok (.getfield 7, 3) := by decide +kernel
theorem dX9_passesOne_19 : decode cX9_passesOne 19 = .ok (.bipush 11, 2) := by decide +kernel
theorem dX9_passesOne_21 : decode cX9_passesOne 21 = .ok (.iaload, 1) := by decide +kernel
theorem dX9_passesOne_22 : decode cX9_passesOne 22 = .ok (.iastore, 1) := by decide +kernel
theorem dX9_passesOne_23 : decode cX9_passesOne 23 = .ok (.iconst 0, 1) := by decide +kernel
theorem dX9_passesOne_24 : decode cX9_passesOne 24 = .ok (.istore_n 1, 1) := by decide +kernel
theorem dX9_passesOne_25 : decode cX9_passesOne 25 = .ok (.iconst 0, 1) := by decide +kernel
theorem dX9_passesOne_26 : decode cX9_passesOne 26 = .ok (.istore_n 2, 1) := by decide +kernel
theorem dX9_passesOne_27 : decode cX9_passesOne 27 = .ok (.iload_n 2, 1) := by decide +kernel
theorem dX9_passesOne_28 : decode cX9_passesOne 28 = .ok (.bipush 6, 2) := by decide +kernel
theorem dX9_passesOne_30 : decode cX9_passesOne 30 = .ok (.if_icmp .ge 36, 3) := by decide +kernel
theorem dX9_passesOne_33 : decode cX9_passesOne 33 = .ok (.iconst 0, 1) := by decide +kernel
theorem dX9_passesOne_34 : decode cX9_passesOne 34 = .ok (.istore_n 3, 1) := by decide +kernel
theorem dX9_passesOne_35 : decode cX9_passesOne 35 = .ok (.iload_n 3, 1) := by decide +kernel
theorem dX9_passesOne_36 : decode cX9_passesOne 36 = .ok (.aload_n 0, 1) := by decide +kernel
theorem dX9_passesOne_37 : decode cX9_passesOne 37 = .ok (.getfield 7, 3) := by decide +kernel
theorem dX9_passesOne_40 : decode cX9_passesOne 40 = .ok (.bipush 12, 2) := by decide +kernel
theorem dX9_passesOne_42 : decode cX9_passesOne 42 = .ok (.iload_n 2, 1) := by decide +kernel
theorem dX9_passesOne_43 : decode cX9_passesOne 43 = .ok (.iadd, 1) := by decide +kernel
theorem dX9_passesOne_44 : decode cX9_passesOne 44 = .ok (.iaload, 1) := by decide +kernel
theorem dX9_passesOne_45 : decode cX9_passesOne 45 = .ok (.if_icmp .ge 15, 3) := by decide +kernel
theorem dX9_passesOne_48 : decode cX9_passesOne 48 = .ok (.aload_n 0, 1) := by decide +kernel
theorem dX9_passesOne_49 : decode cX9_passesOne 49 = .ok (.iload_n 2, 1) := by decide +kernel
theorem dX9_passesOne_50 : decode cX9_passesOne 50 = .ok (.iload_n 3, 1) := by decide +kernel
theorem dX9_passesOne_51 : decode cX9_passesOne 51 = .ok (.invokevirtual 78, 3) := by decide +kernel
theorem dX9_passesOne_54 : decode cX9_passesOne 54 = .ok (.iinc 3 1, 3) := by decide +kernel
theorem dX9_passesOne_57 : decode cX9_passesOne 57 = .ok (.goto (-22), 3) := by decide +kernel
theorem dX9_passesOne_60 : decode cX9_passesOne 60 = .ok (.iinc 2 1, 3) := by decide +kernel
theorem dX9_passesOne_63 : decode cX9_passesOne 63 = .ok (.goto (-36), 3) := by decide +kernel
theorem dX9_passesOne_66 : decode cX9_passesOne 66 = .ok (.iconst 0, 1) := by decide +kernel
theorem dX9_passesOne_67 : decode cX9_passesOne 67 = .ok (.istore_n 2, 1) := by decide +kernel
theorem dX9_passesOne_68 : decode cX9_passesOne 68 = .ok (.iload_n 2, 1) := by decide +kernel
theorem dX9_passesOne_69 : decode cX9_passesOne 69 = .ok (.bipush 6, 2) := by decide +kernel
theorem dX9_passesOne_71 : decode cX9_passesOne 71 = .ok (.if_icmp .ge 61, 3) := by decide +kernel
theorem dX9_passesOne_74 : decode cX9_passesOne 74 = .ok (.aload_n 0, 1) := by decide +kernel
theorem dX9_passesOne_75 : decode cX9_passesOne 75 = .ok (.iload_n 2, 1) := by decide +kernel
theorem dX9_passesOne_76 : decode cX9_passesOne 76 = .ok (.iconst 0, 1) := by decide +kernel
theorem dX9_passesOne_77 : decode cX9_passesOne 77 = .ok (.invokevirtual 64, 3) := by decide +kernel
theorem dX9_passesOne_80 : decode cX9_passesOne 80 = .ok (.iconst 1, 1) := by decide +kernel
theorem dX9_passesOne_81 : decode cX9_passesOne 81 = .ok (.if_icmp .ne 34, 3) := by decide +kernel
theorem dX9_passesOne_84 : decode cX9_passesOne 84 = .ok (.aload_n 0, 1) := by decide +kernel
theorem dX9_passesOne_85 : decode cX9_passesOne 85 = .ok (.iload_n 2, 1) := by decide +kernel
theorem dX9_passesOne_86 : decode cX9_passesOne 86 = .ok (.iconst 2, 1) := by decide +kernel
theorem dX9_passesOne_87 : decode cX9_passesOne 87 = .ok (.invokevirtual 64, 3) := by decide +kernel
theorem dX9_passesOne_90 : decode cX9_passesOne 90 = .ok (.aload_n 0, 1) := by decide +kernel
theorem dX9_passesOne_91 : decode cX9_passesOne 91 = .ok (.getfield 7, 3) := by decide +kernel
theorem dX9_passesOne_94 : decode cX9_passesOne 94 = .ok (.iconst 0, 1) := by decide +kernel
theorem dX9_passesOne_95 : decode cX9_passesOne 95 = .ok (.iaload, 1) := by decide +kernel
theorem dX9_passesOne_96 : decode cX9_passesOne 96 = .ok (.if_icmp .ge 19, 3) := by decide +kernel
theorem dX9_passesOne_99 : decode cX9_passesOne 99 = .ok (.aload_n 0, 1) := by decide +kernel
theorem dX9_passesOne_100 : decode cX9_passesOne 100 = .ok (.iload_n 2, 1) := by decide +kernel
theorem dX9_passesOne_101 : decode cX9_passesOne 101 = .ok (.iconst 3, 1) := by decide +kernel
theorem dX9_passesOne_102 : decode cX9_passesOne 102 = .ok (.invokevirtual 64, 3) := by decide +kernel
theorem dX9_passesOne_105 : decode cX9_passesOne 105 = .ok (.aload_n 0, 1) := by decide +kernel
theorem dX9_passesOne_106 : decode cX9_passesOne 106 = .ok (.iload_n 2, 1) := by decide +kernel
theorem dX9_passesOne_107 : decode cX9_passesOne 107 = .ok (.iconst 0, 1) := by decide +kernel
theorem dX9_passesOne_108 : decode cX9_passesOne 108 = .ok (.invokevirtual 45, 3) := by decide +kernel
theorem dX9_passesOne_111 : decode cX9_passesOne 111 = .ok (.imul, 1) := by decide +kernel
theorem dX9_passesOne_112 : decode cX9_passesOne 112 = .ok (.goto 4, 3) := by decide +kernel
theorem dX9_passesOne_115 : decode cX9_passesOne 115 = .ok (.iconst 0, 1) := by decide +kernel
theorem dX9_passesOne_116 : decode cX9_passesOne 116 = .ok (.istore_n 3, 1) := by decide +kernel
theorem dX9_passesOne_117 : decode cX9_passesOne 117 = .ok (.aload_n 0, 1) := by decide +kernel
theorem dX9_passesOne_118 : decode cX9_passesOne 118 = .ok (.iload_n 3, 1) := by decide +kernel
theorem dX9_passesOne_119 : decode cX9_passesOne 119 = .ok (.invokevirtual 82, 3) := by decide +kernel
theorem dX9_passesOne_122 : decode cX9_passesOne 122 = .ok (.iload_n 1, 1) := by decide +kernel
theorem dX9_passesOne_123 : decode cX9_passesOne 123 = .ok (.iload_n 3, 1) := by decide +kernel
theorem dX9_passesOne_124 : decode cX9_passesOne 124 = .ok (.iadd, 1) := by decide +kernel
theorem dX9_passesOne_125 : decode cX9_passesOne 125 = .ok (.istore_n 1, 1) := by decide +kernel
theorem dX9_passesOne_126 : decode cX9_passesOne 126 = .ok (.iinc 2 1, 3) := by decide +kernel
theorem dX9_passesOne_129 : decode cX9_passesOne 129 = .ok (.goto (-61), 3) := by decide +kernel
theorem dX9_passesOne_132 : decode cX9_passesOne 132 = .ok (.aload_n 0, 1) := by decide +kernel
theorem dX9_passesOne_133 : decode cX9_passesOne 133 = .ok (.getfield 7, 3) := by decide +kernel
theorem dX9_passesOne_136 : decode cX9_passesOne 136 = .ok (.bipush 6, 2) := by decide +kernel
theorem dX9_passesOne_138 : decode cX9_passesOne 138 = .ok (.dup2, 1) := by decide +kernel
theorem dX9_passesOne_139 : decode cX9_passesOne 139 = .ok (.iaload, 1) := by decide +kernel
theorem dX9_passesOne_140 : decode cX9_passesOne 140 = .ok (.iload_n 1, 1) := by decide +kernel
theorem dX9_passesOne_141 : decode cX9_passesOne 141 = .ok (.iadd, 1) := by decide +kernel
theorem dX9_passesOne_142 : decode cX9_passesOne 142 = .ok (.iastore, 1) := by decide +kernel
theorem dX9_passesOne_143 : decode cX9_passesOne 143 = .ok (.iload_n 1, 1) := by decide +kernel
theorem dX9_passesOne_144 : decode cX9_passesOne 144 = .ok (.ireturn, 1) := by decide +kernel
theorem dX9_pass_0 : decode cX9_pass 0 = .ok (.iload_n 1, 1) := by decide +kernel
theorem dX9_pass_1 : decode cX9_pass 1 = .ok (.iconst 1, 1) := by decide +kernel
theorem dX9_pass_2 : decode cX9_pass 2 = .ok (.bipush 60, 2) := by decide +kernel
theorem dX9_pass_4 : decode cX9_pass 4 = .ok (.invokestatic 29, 3) := by decide +kernel
theorem dX9_pass_7 : decode cX9_pass 7 = .ok (.ifCond .ne 5, 3) := by decide +kernel
theorem dX9_pass_10 : decode cX9_pass 10 = .ok (.iconst (-1), 1) := by decide +kernel
theorem dX9_pass_11 : decode cX9_pass 11 = .ok (.ireturn, 1) := by decide +kernel
theorem dX9_pass_12 : decode cX9_pass 12 = .ok (.aload_n 0, 1) := by decide +kernel
theorem dX9_pass_13 : decode cX9_pass 13 = .ok (.getfield 7, 3) := by decide +kernel
theorem dX9_pass_16 : decode cX9_pass 16 = .ok (.iconst 0, 1) := by decide +kernel
theorem dX9_pass_17 : decode cX9_pass 17 = .ok (.iaload, 1) := by decide +kernel
theorem dX9_pass_18 : decode cX9_pass 18 = .ok (.iload_n 1, 1) := by decide +kernel
theorem dX9_pass_19 : decode cX9_pass 19 = .ok (.iadd, 1) := by decide +kernel
theorem dX9_pass_20 : decode cX9_pass 20 = .ok (.sipush 1000, 3) := by decide +kernel
theorem dX9_pass_23 : decode cX9_pass 23 = .ok (.if_icmp .le 6, 3) := by decide +kernel
theorem dX9_pass_26 : decode cX9_pass 26 = .ok (.bipush (-3), 2) := by decide +kernel
theorem dX9_pass_28 : decode cX9_pass 28 = .ok (.ireturn, 1) := by decide +kernel
theorem dX9_pass_29 : decode cX9_pass 29 = .ok (.aload_n 0, 1) := by decide +kernel
theorem dX9_pass_30 : decode cX9_pass 30 = .ok (.invokevirtual 61, 3) := by decide +kernel
theorem dX9_pass_33 : decode cX9_pass 33 = .ok (.iconst 0, 1) := by decide +kernel
theorem dX9_pass_34 : decode cX9_pass 34 = .ok (.istore_n 2, 1) := by decide +kernel
theorem dX9_pass_35 : decode cX9_pass 35 = .ok (.iconst 0, 1) := by decide +kernel
theorem dX9_pass_36 : decode cX9_pass 36 = .ok (.istore_n 3, 1) := by decide +kernel
theorem dX9_pass_37 : decode cX9_pass 37 = .ok (.iload_n 3, 1) := by decide +kernel
theorem dX9_pass_38 : decode cX9_pass 38 = .ok (.iload_n 1, 1) := by decide +kernel
theorem dX9_pass_39 : decode cX9_pass 39 = .ok (.if_icmp .ge 16, 3) := by decide +kernel
theorem dX9_pass_42 : decode cX9_pass 42 = .ok (.iload_n 2, 1) := by decide +kernel
theorem dX9_pass_43 : decode cX9_pass 43 = .ok (.aload_n 0, 1) := by decide +kernel
theorem dX9_pass_44 : decode cX9_pass 44 = .ok (.invokevirtual 85, 3) := by decide +kernel
theorem dX9_pass_47 : decode cX9_pass 47 = .ok (.iadd, 1) := by decide +kernel
theorem dX9_pass_48 : decode cX9_pass 48 = .ok (.istore_n 2, 1) := by decide +kernel
theorem dX9_pass_49 : decode cX9_pass 49 = .ok (.iinc 3 1, 3) := by decide +kernel
theorem dX9_pass_52 : decode cX9_pass 52 = .ok (.goto (-15), 3) := by decide +kernel
theorem dX9_pass_55 : decode cX9_pass 55 = .ok (.aload_n 0, 1) := by decide +kernel
theorem dX9_pass_56 : decode cX9_pass 56 = .ok (.iload_n 2, 1) := by decide +kernel
theorem dX9_pass_57 : decode cX9_pass 57 = .ok (.invokevirtual 71, 3) := by decide +kernel
theorem dX9_pass_60 : decode cX9_pass 60 = .ok (.ireturn, 1) := by decide +kernel
theorem dX9_set_0 : decode cX9_set 0 = .ok (.iload_n 1, 1) := by decide +kernel
theorem dX9_set_1 : decode cX9_set 1 = .ok (.iconst 0, 1) := by decide +kernel
theorem dX9_set_2 : decode cX9_set 2 = .ok (.iconst 2, 1) := by decide +kernel
theorem dX9_set_3 : decode cX9_set 3 = .ok (.invokestatic 29, 3) := by decide +kernel
theorem dX9_set_6 : decode cX9_set 6 = .ok (.ifCond .eq 32, 3) := by decide +kernel
theorem dX9_set_9 : decode cX9_set 9 = .ok (.iload_n 2, 1) := by decide +kernel
theorem dX9_set_10 : decode cX9_set 10 = .ok (.iload_n 1, 1) := by decide +kernel
theorem dX9_set_11 : decode cX9_set 11 = .ok (.iconst 2, 1) := by decide +kernel
theorem dX9_set_12 : decode cX9_set 12 = .ok (.if_icmp .ne 7, 3) := by decide +kernel
theorem dX9_set_15 : decode cX9_set 15 = .ok (.iconst 1, 1) := by decide +kernel
theorem dX9_set_16 : decode cX9_set 16 = .ok (.goto 4, 3) := by decide +kernel
theorem dX9_set_19 : decode cX9_set 19 = .ok (.iconst 0, 1) := by decide +kernel
theorem dX9_set_20 : decode cX9_set 20 = .ok (.iload_n 1, 1) := by decide +kernel
theorem dX9_set_21 : decode cX9_set 21 = .ok (.iconst 2, 1) := by decide +kernel
theorem dX9_set_22 : decode cX9_set 22 = .ok (.if_icmp .ne 8, 3) := by decide +kernel
theorem dX9_set_25 : decode cX9_set 25 = .ok (.bipush 100, 2) := by decide +kernel
theorem dX9_set_27 : decode cX9_set 27 = .ok (.goto 5, 3) := by decide +kernel
theorem dX9_set_30 : decode cX9_set 30 = .ok (.bipush 51, 2) := by decide +kernel
theorem dX9_set_32 : decode cX9_set 32 = .ok (.invokestatic 29, 3) := by decide +kernel
theorem dX9_set_35 : decode cX9_set 35 = .ok (.ifCond .ne 5, 3) := by decide +kernel
theorem dX9_set_38 : decode cX9_set 38 = .ok (.iconst (-1), 1) := by decide +kernel
theorem dX9_set_39 : decode cX9_set 39 = .ok (.ireturn, 1) := by decide +kernel
theorem dX9_set_40 : decode cX9_set 40 = .ok (.aload_n 0, 1) := by decide +kernel
theorem dX9_set_41 : decode cX9_set 41 = .ok (.invokevirtual 61, 3) := by decide +kernel
theorem dX9_set_44 : decode cX9_set 44 = .ok (.aload_n 0, 1) := by decide +kernel
theorem dX9_set_45 : decode cX9_set 45 = .ok (.getfield 7, 3) := by decide +kernel
theorem dX9_set_48 : decode cX9_set 48 = .ok (.bipush 9, 2) := by decide +kernel
theorem dX9_set_50 : decode cX9_set 50 = .ok (.iload_n 1, 1) := by decide +kernel
theorem dX9_set_51 : decode cX9_set 51 = .ok (.iadd, 1) := by decide +kernel
theorem dX9_set_52 : decode cX9_set 52 = .ok (.iaload, 1) := by decide +kernel
theorem dX9_set_53 : decode cX9_set 53 = .ok (.istore_n 3, 1) := by decide +kernel
theorem dX9_set_54 : decode cX9_set 54 = .ok (.aload_n 0, 1) := by decide +kernel
theorem dX9_set_55 : decode cX9_set 55 = .ok (.getfield 7, 3) := by decide +kernel
theorem dX9_set_58 : decode cX9_set 58 = .ok (.bipush 9, 2) := by decide +kernel
theorem dX9_set_60 : decode cX9_set 60 = .ok (.iload_n 1, 1) := by decide +kernel
theorem dX9_set_61 : decode cX9_set 61 = .ok (.iadd, 1) := by decide +kernel
theorem dX9_set_62 : decode cX9_set 62 = .ok (.iload_n 2, 1) := by decide +kernel
theorem dX9_set_63 : decode cX9_set 63 = .ok (.iastore, 1) := by decide +kernel
theorem dX9_set_64 : decode cX9_set 64 = .ok (.iload_n 1, 1) := by decide +kernel
theorem dX9_set_65 : decode cX9_set 65 = .ok (.iconst 2, 1) := by decide +kernel
theorem dX9_set_66 : decode cX9_set 66 = .ok (.if_icmp .ne 32, 3) := by decide +kernel
theorem dX9_set_69 : decode cX9_set 69 = .ok (.aload_n 0, 1) := by decide +kernel
theorem dX9_set_70 : decode cX9_set 70 = .ok (.getfield 7, 3) := by decide +kernel
theorem dX9_set_73 : decode cX9_set 73 = .ok (.iconst 1, 1) := by decide +kernel
theorem dX9_set_74 : decode cX9_set 74 = .ok (.iaload, 1) := by decide +kernel
theorem dX9_set_75 : decode cX9_set 75 = .ok (.iload_n 2, 1) := by decide +kernel
theorem dX9_set_76 : decode cX9_set 76 = .ok (.iadd, 1) := by decide +kernel
theorem dX9_set_77 : decode cX9_set 77 = .ok (.iload_n 3, 1) := by decide +kernel
theorem dX9_set_78 : decode cX9_set 78 = .ok (.isub, 1) := by decide +kernel
theorem dX9_set_79 : decode cX9_set 79 = .ok (.istore 4, 2) := by decide +kernel
theorem dX9_set_81 : decode cX9_set 81 = .ok (.aload_n 0, 1) := by decide +kernel
theorem dX9_set_82 : decode cX9_set 82 = .ok (.getfield 7, 3) := by decide +kernel
theorem dX9_set_85 : decode cX9_set 85 = .ok (.iconst 1, 1) := by decide +kernel
theorem dX9_set_86 : decode cX9_set 86 = .ok (.iload 4, 2) := by decide +kernel
theorem dX9_set_88 : decode cX9_set 88 = .ok (.ifCond .ge 7, 3) := by decide +kernel
theorem dX9_set_91 : decode cX9_set 91 = .ok (.iconst 0, 1) := by decide +kernel
theorem dX9_set_92 : decode cX9_set 92 = .ok (.goto 5, 3) := by decide +kernel
theorem dX9_set_95 : decode cX9_set 95 = .ok (.iload 4, 2) := by decide +kernel
theorem dX9_set_97 : decode cX9_set 97 = .ok (.iastore, 1) := by decide +kernel
theorem dX9_set_98 : decode cX9_set 98 = .ok (.aload_n 0, 1) := by decide +kernel
theorem dX9_set_99 : decode cX9_set 99 = .ok (.iload_n 3, 1) := by decide +kernel
theorem dX9_set_100 : decode cX9_set 100 = .ok (.invokevirtual 71, 3) := by decide +kernel
theorem dX9_set_103 : decode cX9_set 103 = .ok (.ireturn, 1) := by decide +kernel
theorem dX9_contract_0 : decode cX9_contract 0 = .ok (.iload_n 1, 1) := by decide +kernel
theorem dX9_contract_1 : decode cX9_contract 1 = .ok (.invokestatic 33, 3) := by decide +kernel
theorem dX9_contract_4 : decode cX9_contract 4 = .ok (.ifCond .eq 34, 3) := by decide +kernel
theorem dX9_contract_7 : decode cX9_contract 7 = .ok (.iload_n 2, 1) := by decide +kernel
theorem dX9_contract_8 : decode cX9_contract 8 = .ok (.iconst 0, 1) := by decide +kernel
theorem dX9_contract_9 : decode cX9_contract 9 = .ok (.bipush 20, 2) := by decide +kernel
theorem dX9_contract_11 : decode cX9_contract 11 = .ok (.invokestatic 29, 3) := by decide +kernel
theorem dX9_contract_14 : decode cX9_contract 14 = .ok (.ifCond .eq 24, 3) := by decide +kernel
theorem dX9_contract_17 : decode cX9_contract 17 = .ok (.iload_n 3, 1) := by decide +kernel
theorem dX9_contract_18 : decode cX9_contract 18 = .ok (.iconst 0, 1) := by decide +kernel
theorem dX9_contract_19 : decode cX9_contract 19 = .ok (.bipush 100, 2) := by decide +kernel
theorem dX9_contract_21 : decode cX9_contract 21 = .ok (.invokestatic 29, 3) := by decide +kernel
theorem dX9_contract_24 : decode cX9_contract 24 = .ok (.ifCond .eq 14, 3) := by decide +kernel
theorem dX9_contract_27 : decode cX9_contract 27 = .ok (.iload 4, 2) := by decide +kernel
theorem dX9_contract_29 : decode cX9_contract 29 = .ok (.iconst 0, 1) := by decide +kernel
theorem dX9_contract_30 : decode cX9_contract 30 = .ok (.bipush 9, 2) := by decide +kernel
theorem dX9_contract_32 : decode cX9_contract 32 = .ok (.invokestatic 29, 3) := by decide +kernel
theorem dX9_contract_35 : decode cX9_contract 35 = .ok (.ifCond .ne 5, 3) := by decide +kernel
theorem dX9_contract_38 : decode cX9_contract 38 = .ok (.iconst (-1), 1) := by decide +kernel
theorem dX9_contract_39 : decode cX9_contract 39 = .ok (.ireturn, 1) := by decide +kernel
theorem dX9_contract_40 : decode cX9_contract 40 = .ok (.aload_n 0, 1) := by decide +kernel
theorem dX9_contract_41 : decode cX9_contract 41 = .ok (.iload_n 1, 1) := by decide +kernel
theorem dX9_contract_42 : decode cX9_contract 42 = .ok (.iconst 0, 1) := by decide +kernel
theorem dX9_contract_43 : decode cX9_contract 43 = .ok (.invokevirtual 64, 3) := by decide +kernel
theorem dX9_contract_46 : decode cX9_contract 46 = .ok (.iconst 1, 1) := by decide +kernel
theorem dX9_contract_47 : decode cX9_contract 47 = .ok (.if_icmp .eq 12, 3) := by decide +kernel
theorem dX9_contract_50 : decode cX9_contract 50 = .ok (.aload_n 0, 1) := by decide +kernel
theorem dX9_contract_51 : decode cX9_contract 51 = .ok (.iload_n 1, 1) := by decide +kernel
theorem dX9_contract_52 : decode cX9_contract 52 = .ok (.iconst 0, 1) := by decide +kernel
theorem dX9_contract_53 : decode cX9_contract 53 = .ok (.invokevirtual 45, 3) := by decide +kernel
theorem dX9_contract_56 : decode cX9_contract 56 = .ok (.ifCond .ne 6, 3) := by decide +kernel
theorem dX9_contract_59 : decode cX9_contract 59 = .ok (.bipush (-2), 2) := by decide +kernel
theorem dX9_contract_61 : decode cX9_contract 61 = .ok (.ireturn, 1) := by decide +kernel
theorem dX9_contract_62 : decode cX9_contract 62 = .ok (.aload_n 0, 1) := by decide +kernel
theorem dX9_contract_63 : decode cX9_contract 63 = .ok (.invokevirtual 61, 3) := by decide +kernel
theorem dX9_contract_66 : decode cX9_contract 66 = .ok (.bipush 18, 2) := by decide +kernel
theorem dX9_contract_68 : decode cX9_contract 68 = .ok (.iconst 4, 1) := by decide +kernel
theorem dX9_contract_69 : decode cX9_contract 69 = .ok (.iload_n 1, 1) := by decide +kernel
theorem dX9_contract_70 : decode cX9_contract 70 = .ok (.imul, 1) := by decide +kernel
theorem dX9_contract_71 : decode cX9_contract 71 = .ok (.iadd, 1) := by decide +kernel
theorem dX9_contract_72 : decode cX9_contract 72 = .ok (.istore 5, 2) := by decide +kernel
theorem dX9_contract_74 : decode cX9_contract 74 = .ok (.aload_n 0, 1) := by decide +kernel
theorem dX9_contract_75 : decode cX9_contract 75 = .ok (.getfield 7, 3) := by decide +kernel
theorem dX9_contract_78 : decode cX9_contract 78 = .ok (.iload 5, 2) := by decide +kernel
theorem dX9_contract_80 : decode cX9_contract 80 = .ok (.iconst 1, 1) := by decide +kernel
theorem dX9_contract_81 : decode cX9_contract 81 = .ok (.iastore, 1) := by decide +kernel
theorem dX9_contract_82 : decode cX9_contract 82 = .ok (.aload_n 0, 1) := by decide +kernel
theorem dX9_contract_83 : decode cX9_contract 83 = .ok (.getfield 7, 3) := by decide +kernel
theorem dX9_contract_86 : decode cX9_contract 86 = .ok (.iload 5, 2) := by decide +kernel
theorem dX9_contract_88 : decode cX9_contract 88 = .ok (.iconst 1, 1) := by decide +kernel
theorem dX9_contract_89 : decode cX9_contract 89 = .ok (.iadd, 1) := by decide +kernel
theorem dX9_contract_90 : decode cX9_contract 90 = .ok (.iload_n 2, 1) := by decide +kernel
theorem dX9_contract_91 : decode cX9_contract 91 = .ok (.iastore, 1) := by decide +kernel
theorem dX9_contract_92 : decode cX9_contract 92 = .ok (.aload_n 0, 1) := by decide +kernel
theorem dX9_contract_93 : decode cX9_contract 93 = .ok (.getfield 7, 3) := by decide +kernel
theorem dX9_contract_96 : decode cX9_contract 96 = .ok (.iload 5, 2) := by decide +kernel
theorem dX9_contract_98 : decode cX9_contract 98 = .ok (.iconst 2, 1) := by decide +kernel
theorem dX9_contract_99 : decode cX9_contract 99 = .ok (.iadd, 1) := by decide +kernel
theorem dX9_contract_100 : decode cX9_contract 100 = .ok (.aload_n 0, 1) := by decide +kernel
theorem dX9_contract_101 : decode cX9_contract 101 = .ok (.getfield 7, 3) := by decide +kernel
theorem dX9_contract_104 : decode cX9_contract 104 = .ok (.iconst 0, 1) := by decide +kernel
theorem dX9_contract_105 : decode cX9_contract 105 = .ok (.iaload, 1) := by decide +kernel
theorem dX9_contract_106 : decode cX9_contract 106 = .ok (.iload_n 3, 1) := by decide +kernel
theorem dX9_contract_107 : decode cX9_contract 107 = .ok (.iadd, 1) := by decide +kernel
theorem dX9_contract_108 : decode cX9_contract 108 = .ok (.iastore, 1) := by decide +kernel
theorem dX9_contract_109 : decode cX9_contract 109 = .ok (.aload_n 0, 1) := by decide +kernel
theorem dX9_contract_110 : decode cX9_contract 110 = .ok (.getfield 7, 3) := by decide +kernel
theorem dX9_contract_113 : decode cX9_contract 113 = .ok (.iload 5, 2) := by decide +kernel
theorem dX9_contract_115 : decode cX9_contract 115 = .ok (.iconst 3, 1) := by decide +kernel
theorem dX9_contract_116 : decode cX9_contract 116 = .ok (.iadd, 1) := by decide +kernel
theorem dX9_contract_117 : decode cX9_contract 117 = .ok (.iload 4, 2) := by decide +kernel
theorem dX9_contract_119 : decode cX9_contract 119 = .ok (.iastore, 1) := by decide +kernel
theorem dX9_contract_120 : decode cX9_contract 120 = .ok (.aload_n 0, 1) := by decide +kernel
theorem dX9_contract_121 : decode cX9_contract 121 = .ok (.aload_n 0, 1) := by decide +kernel
theorem dX9_contract_122 : decode cX9_contract 122 = .ok (.iload_n 1, 1) := by decide +kernel
theorem dX9_contract_123 : decode cX9_contract 123 = .ok (.iconst 0, 1) := by decide +kernel
theorem dX9_contract_124 : decode cX9_contract 124 = .ok (.invokevirtual 45, 3) := by decide +kernel
theorem dX9_contract_127 : decode cX9_contract 127 = .ok (.invokevirtual 71, 3) := by decide +kernel
theorem dX9_contract_130 : decode cX9_contract 130 = .ok (.ireturn, 1) := by decide +kernel
theorem dX9_giveBack_0 : decode cX9_giveBack 0 = .ok (.iload_n 1, 1) := by decide +kernel
theorem dX9_giveBack_1 : decode cX9_giveBack 1 = .ok (.invokestatic 33, 3) := by decide +kernel
theorem dX9_giveBack_4 : decode cX9_giveBack 4 = .ok (.ifCond .ne 5, 3) := by decide +kernel
theorem dX9_giveBack_7 : decode cX9_giveBack 7 = .ok (.iconst (-1), 1) := by decide +kernel
theorem dX9_giveBack_8 : decode cX9_giveBack 8 = .ok (.ireturn, 1) := by decide +kernel
theorem dX9_giveBack_9 : decode cX9_giveBack 9 = .ok (.aload_n 0, 1) := by decide +kernel
theorem dX9_giveBack_10 : decode cX9_giveBack 10 = .ok (.iload_n 1, 1) := by decide +kernel
theorem dX9_giveBack_11 : decode cX9_giveBack 11 = .ok (.iconst 0, 1) := by decide +kernel
theorem dX9_giveBack_12 : decode cX9_giveBack 12 = .ok (.invokevirtual 64, 3) := by decide +kernel
theorem dX9_giveBack_15 : decode cX9_giveBack 15 = .ok (.ifCond .ne 6, 3) := by decide +kernel
theorem dX9_giveBack_18 : decode cX9_giveBack 18 = .ok (.bipush (-2), 2) := by decide +kernel
theorem dX9_giveBack_20 : decode cX9_giveBack 20 = .ok (.ireturn, 1) := by decide +kernel
theorem dX9_giveBack_21 : decode cX9_giveBack 21 = .ok (.aload_n 0, 1) := by decide +kernel
theorem dX9_giveBack_22 : decode cX9_giveBack 22 = .ok (.invokevirtual 61, 3) := by decide +kernel
theorem dX9_giveBack_25 : decode cX9_giveBack 25 = .ok (.iconst 5, 1) := by decide +kernel
theorem dX9_giveBack_26 : decode cX9_giveBack 26 = .ok (.aload_n 0, 1) := by decide +kernel
theorem dX9_giveBack_27 : decode cX9_giveBack 27 = .ok (.iload_n 1, 1) := by decide +kernel
theorem dX9_giveBack_28 : decode cX9_giveBack 28 = .ok (.iconst 3, 1) := by decide +kernel
theorem dX9_giveBack_29 : decode cX9_giveBack 29 = .ok (.invokevirtual 64, 3) := by decide +kernel
theorem dX9_giveBack_32 : decode cX9_giveBack 32 = .ok (.imul, 1) := by decide +kernel
theorem dX9_giveBack_33 : decode cX9_giveBack 33 = .ok (.istore_n 2, 1) := by decide +kernel
theorem dX9_giveBack_34 : decode cX9_giveBack 34 = .ok (.aload_n 0, 1) := by decide +kernel
theorem dX9_giveBack_35 : decode cX9_giveBack 35 = .ok (.iload_n 2, 1) := by decide +kernel
theorem dX9_giveBack_36 : decode cX9_giveBack 36 = .ok (.invokevirtual 82, 3) := by decide +kernel
theorem dX9_giveBack_39 : decode cX9_giveBack 39 = .ok (.iconst 0, 1) := by decide +kernel
theorem dX9_giveBack_40 : decode cX9_giveBack 40 = .ok (.istore_n 3, 1) := by decide +kernel
theorem dX9_giveBack_41 : decode cX9_giveBack 41 = .ok (.iload_n 3, 1) := by decide +kernel
theorem dX9_giveBack_42 : decode cX9_giveBack 42 = .ok (.iconst 4, 1) := by decide +kernel
theorem dX9_giveBack_43 : decode cX9_giveBack 43 = .ok (.if_icmp .ge 23, 3) := by decide +kernel
theorem dX9_giveBack_46 : decode cX9_giveBack 46 = .ok (.aload_n 0, 1) := by decide +kernel
theorem dX9_giveBack_47 : decode cX9_giveBack 47 = .ok (.getfield 7, 3) := by decide +kernel
theorem dX9_giveBack_50 : decode cX9_giveBack 50 = .ok (.bipush 18, 2) := by decide +kernel
theorem dX9_giveBack_52 : decode cX9_giveBack 52 = .ok (.iconst 4, 1) := by decide +kernel
theorem dX9_giveBack_53 : decode cX9_giveBack 53 = .ok (.iload_n 1, 1) := by decide +kernel
theorem dX9_giveBack_54 : decode cX9_giveBack 54 = .ok (.imul, 1) := by decide +kernel
theorem dX9_giveBack_55 : decode cX9_giveBack 55 = .ok (.iadd, 1) := by decide +kernel
theorem dX9_giveBack_56 : decode cX9_giveBack 56 = .ok (.iload_n 3, 1) := by decide +kernel
theorem dX9_giveBack_57 : decode cX9_giveBack 57 = .ok (.iadd, 1) := by decide +kernel
theorem dX9_giveBack_58 : decode cX9_giveBack 58 = .ok (.iconst 0, 1) := by decide +kernel
theorem dX9_giveBack_59 : decode cX9_giveBack 59 = .ok (.iastore, 1) := by decide +kernel
theorem dX9_giveBack_60 : decode cX9_giveBack 60 = .ok (.iinc 3 1, 3) := by decide +kernel
theorem dX9_giveBack_63 : decode cX9_giveBack 63 = .ok (.goto (-22), 3) := by decide +kernel
theorem dX9_giveBack_66 : decode cX9_giveBack 66 = .ok (.aload_n 0, 1) := by decide +kernel
theorem dX9_giveBack_67 : decode cX9_giveBack 67 = .ok (.iload_n 2, 1) := by decide +kernel
theorem dX9_giveBack_68 : decode cX9_giveBack 68 = .ok (.invokevirtual 71, 3) := by decide +kernel
theorem dX9_giveBack_71 : decode cX9_giveBack 71 = .ok (.ireturn, 1) := by decide +kernel
theorem dX9_payDebt_0 : decode cX9_payDebt 0 = .ok (.aload_n 0, 1) := by decide +kernel
theorem dX9_payDebt_1 : decode cX9_payDebt 1 = .ok (.getfield 7, 3) := by decide +kernel
theorem dX9_payDebt_4 : decode cX9_payDebt 4 = .ok (.iconst 4, 1) := by decide +kernel
theorem dX9_payDebt_5 : decode cX9_payDebt 5 = .ok (.iaload, 1) := by decide +kernel
theorem dX9_payDebt_6 : decode cX9_payDebt 6 = .ok (.ifCond .eq 12, 3) := by decide +kernel
theorem dX9_payDebt_9 : decode cX9_payDebt 9 = .ok (.aload_n 0, 1) := by decide +kernel
theorem dX9_payDebt_10 : decode cX9_payDebt 10 = .ok (.getfield 7, 3) := by decide +kernel
theorem dX9_payDebt_13 : decode cX9_payDebt 13 = .ok (.iconst 3, 1) := by decide +kernel
theorem dX9_payDebt_14 : decode cX9_payDebt 14 = .ok (.iaload, 1) := by decide +kernel
theorem dX9_payDebt_15 : decode cX9_payDebt 15 = .ok (.ifCond .ne 6, 3) := by decide +kernel
theorem dX9_payDebt_18 : decode cX9_payDebt 18 = .ok (.bipush (-2), 2) := by decide +kernel
theorem dX9_payDebt_20 : decode cX9_payDebt 20 = .ok (.ireturn, 1) := by decide +kernel
theorem dX9_payDebt_21 : decode cX9_payDebt 21 = .ok (.aload_n 0, 1) := by decide +kernel
theorem dX9_payDebt_22 : decode cX9_payDebt 22 = .ok (.invokevirtual 61, 3) := by decide +kernel
theorem dX9_payDebt_25 : decode cX9_payDebt 25 = .ok (.aload_n 0, 1) := by decide +kernel
theorem dX9_payDebt_26 : decode cX9_payDebt 26 = .ok (.getfield 7, 3) := by decide +kernel
theorem dX9_payDebt_29 : decode cX9_payDebt 29 = .ok (.iconst 4, 1) := by decide +kernel
theorem dX9_payDebt_30 : decode cX9_payDebt 30 = .ok (.iaload, 1) := by decide +kernel
theorem dX9_payDebt_31 : decode cX9_payDebt 31 = .ok (.aload_n 0, 1) := by decide +kernel
theorem dX9_payDebt_32 : decode cX9_payDebt 32 = .ok (.getfield 7, 3) := by decide +kernel
theorem dX9_payDebt_35 : decode cX9_payDebt 35 = .ok (.iconst 3, 1) := by decide +kernel
theorem dX9_payDebt_36 : decode cX9_payDebt 36 = .ok (.iaload, 1) := by decide +kernel
theorem dX9_payDebt_37 : decode cX9_payDebt 37 = .ok (.if_icmp .ge 12, 3) := by decide +kernel
theorem dX9_payDebt_40 : decode cX9_payDebt 40 = .ok (.aload_n 0, 1) := by decide +kernel
theorem dX9_payDebt_41 : decode cX9_payDebt 41 = .ok (.getfield 7, 3) := by decide +kernel
theorem dX9_payDebt_44 : decode cX9_payDebt 44 = .ok (.iconst 4, 1) := by decide +kernel
theorem dX9_payDebt_45 : decode cX9_payDebt 45 = .ok (.iaload, 1) := by decide +kernel
theorem dX9_payDebt_46 : decode cX9_payDebt 46 = .ok (.goto 9, 3) := by decide +kernel
theorem dX9_payDebt_49 : decode cX9_payDebt 49 = .ok (.aload_n 0, 1) := by decide +kernel
theorem dX9_payDebt_50 : decode cX9_payDebt 50 = .ok (.getfield 7, 3) := by decide +kernel
theorem dX9_payDebt_53 : decode cX9_payDebt 53 = .ok (.iconst 3, 1) := by decide +kernel
theorem dX9_payDebt_54 : decode cX9_payDebt 54 = .ok (.iaload, 1) := by decide +kernel
theorem dX9_payDebt_55 : decode cX9_payDebt 55 = .ok (.istore_n 1, 1) := by decide +kernel
theorem dX9_payDebt_56 : decode cX9_payDebt 56 = .ok (.aload_n 0, 1) := by decide +kernel
theorem dX9_payDebt_57 : decode cX9_payDebt 57 = .ok (.getfield 7, 3) := by decide +kernel
theorem dX9_payDebt_60 : decode cX9_payDebt 60 = .ok (.iconst 4, 1) := by decide +kernel
theorem dX9_payDebt_61 : decode cX9_payDebt 61 = .ok (.dup2, 1) := by decide +kernel
theorem dX9_payDebt_62 : decode cX9_payDebt 62 = .ok (.iaload, 1) := by decide +kernel
theorem dX9_payDebt_63 : decode cX9_payDebt 63 = .ok (.iload_n 1, 1) := by decide +kernel
theorem dX9_payDebt_64 : decode cX9_payDebt 64 = .ok (.isub, 1) := by decide +kernel
theorem dX9_payDebt_65 : decode cX9_payDebt 65 = .ok (.iastore, 1) := by decide +kernel
theorem dX9_payDebt_66 : decode cX9_payDebt 66 = .ok (.aload_n 0, 1) := by decide +kernel
theorem dX9_payDebt_67 : decode cX9_payDebt 67 = .ok (.getfield 7, 3) := by decide +kernel
theorem dX9_payDebt_70 : decode cX9_payDebt 70 = .ok (.iconst 3, 1) := by decide +kernel
theorem dX9_payDebt_71 : decode cX9_payDebt 71 = .ok (.dup2, 1) := by decide +kernel
theorem dX9_payDebt_72 : decode cX9_payDebt 72 = .ok (.iaload, 1) := by decide +kernel
theorem dX9_payDebt_73 : decode cX9_payDebt 73 = .ok (.iload_n 1, 1) := by decide +kernel
theorem dX9_payDebt_74 : decode cX9_payDebt 74 = .ok (.isub, 1) := by decide +kernel
theorem dX9_payDebt_75 : decode cX9_payDebt 75 = .ok (.iastore, 1) := by decide +kernel
theorem dX9_payDebt_76 : decode cX9_payDebt 76 = .ok (.aload_n 0, 1) := by decide +kernel
theorem dX9_payDebt_77 : decode cX9_payDebt 77 = .ok (.iload_n 1, 1) := by decide +kernel
theorem dX9_payDebt_78 : decode cX9_payDebt 78 = .ok (.invokevirtual 71, 3) := by decide +kernel
theorem dX9_payDebt_81 : decode cX9_payDebt 81 = .ok (.ireturn, 1) := by decide +kernel
theorem dX9_take_0 : decode cX9_take 0 = .ok (.iload_n 1, 1) := by decide +kernel
theorem dX9_take_1 : decode cX9_take 1 = .ok (.iconst 0, 1) := by decide +kernel
theorem dX9_take_2 : decode cX9_take 2 = .ok (.iconst 1, 1) := by decide +kernel
theorem dX9_take_3 : decode cX9_take 3 = .ok (.invokestatic 29, 3) := by decide +kernel
theorem dX9_take_6 : decode cX9_take 6 = .ok (.ifCond .ne 5, 3) := by decide +kernel
theorem dX9_take_9 : decode cX9_take 9 = .ok (.iconst (-1), 1) := by decide +kernel
theorem dX9_take_10 : decode cX9_take 10 = .ok (.ireturn, 1) := by decide +kernel
theorem dX9_take_11 : decode cX9_take 11 = .ok (.aload_n 0, 1) := by decide +kernel
theorem dX9_take_12 : decode cX9_take 12 = .ok (.invokevirtual 61, 3) := by decide +kernel
theorem dX9_take_15 : decode cX9_take 15 = .ok (.sipush 222, 3) := by decide +kernel
theorem dX9_take_18 : decode cX9_take 18 = .ok (.sipush 223, 3) := by decide +kernel
theorem dX9_take_21 : decode cX9_take 21 = .ok (.iload_n 1, 1) := by decide +kernel
theorem dX9_take_22 : decode cX9_take 22 = .ok (.imul, 1) := by decide +kernel
theorem dX9_take_23 : decode cX9_take 23 = .ok (.iadd, 1) := by decide +kernel
theorem dX9_take_24 : decode cX9_take 24 = .ok (.istore_n 2, 1) := by decide +kernel
theorem dX9_take_25 : decode cX9_take 25 = .ok (.aload_n 0, 1) := by decide +kernel
theorem dX9_take_26 : decode cX9_take 26 = .ok (.getfield 7, 3) := by decide +kernel
theorem dX9_take_29 : decode cX9_take 29 = .ok (.iload_n 2, 1) := by decide +kernel
theorem dX9_take_30 : decode cX9_take 30 = .ok (.iconst 1, 1) := by decide +kernel
theorem dX9_take_31 : decode cX9_take 31 = .ok (.iastore, 1) := by decide +kernel
theorem dX9_take_32 : decode cX9_take 32 = .ok (.iconst 0, 1) := by decide +kernel
theorem dX9_take_33 : decode cX9_take 33 = .ok (.istore_n 3, 1) := by decide +kernel
theorem dX9_take_34 : decode cX9_take 34 = .ok (.iload_n 3, 1) := by decide +kernel
theorem dX9_take_35 : decode cX9_take 35 = .ok (.sipush 222, 3) := by decide +kernel
theorem dX9_take_38 : decode cX9_take 38 = .ok (.if_icmp .ge 25, 3) := by decide +kernel
theorem dX9_take_41 : decode cX9_take 41 = .ok (.aload_n 0, 1) := by decide +kernel
theorem dX9_take_42 : decode cX9_take 42 = .ok (.getfield 7, 3) := by decide +kernel
theorem dX9_take_45 : decode cX9_take 45 = .ok (.iload_n 2, 1) := by decide +kernel
theorem dX9_take_46 : decode cX9_take 46 = .ok (.iconst 1, 1) := by decide +kernel
theorem dX9_take_47 : decode cX9_take 47 = .ok (.iadd, 1) := by decide +kernel
theorem dX9_take_48 : decode cX9_take 48 = .ok (.iload_n 3, 1) := by decide +kernel
theorem dX9_take_49 : decode cX9_take 49 = .ok (.iadd, 1) := by decide +kernel
theorem dX9_take_50 : decode cX9_take 50 = .ok (.aload_n 0, 1) := by decide +kernel
theorem dX9_take_51 : decode cX9_take 51 = .ok (.getfield 7, 3) := by decide +kernel
theorem dX9_take_54 : decode cX9_take 54 = .ok (.iload_n 3, 1) := by decide +kernel
theorem dX9_take_55 : decode cX9_take 55 = .ok (.iaload, 1) := by decide +kernel
theorem dX9_take_56 : decode cX9_take 56 = .ok (.iastore, 1) := by decide +kernel
theorem dX9_take_57 : decode cX9_take 57 = .ok (.iinc 3 1, 3) := by decide +kernel
theorem dX9_take_60 : decode cX9_take 60 = .ok (.goto (-26), 3) := by decide +kernel
theorem dX9_take_63 : decode cX9_take 63 = .ok (.aload_n 0, 1) := by decide +kernel
theorem dX9_take_64 : decode cX9_take 64 = .ok (.aload_n 0, 1) := by decide +kernel
theorem dX9_take_65 : decode cX9_take 65 = .ok (.getfield 7, 3) := by decide +kernel
theorem dX9_take_68 : decode cX9_take 68 = .ok (.iconst 0, 1) := by decide +kernel
theorem dX9_take_69 : decode cX9_take 69 = .ok (.iaload, 1) := by decide +kernel
theorem dX9_take_70 : decode cX9_take 70 = .ok (.invokevirtual 71, 3) := by decide +kernel
theorem dX9_take_73 : decode cX9_take 73 = .ok (.ireturn, 1) := by decide +kernel
theorem dX9_restore_0 : decode cX9_restore 0 = .ok (.iload_n 1, 1) := by decide +kernel
theorem dX9_restore_1 : decode cX9_restore 1 = .ok (.iconst 0, 1) := by decide +kernel
theorem dX9_restore_2 : decode cX9_restore 2 = .ok (.iconst 1, 1) := by decide +kernel
theorem dX9_restore_3 : decode cX9_restore 3 = .ok (.invokestatic 29, 3) := by decide +kernel
theorem dX9_restore_6 : decode cX9_restore 6 = .ok (.ifCond .ne 5, 3) := by decide +kernel
theorem dX9_restore_9 : decode cX9_restore 9 = .ok (.iconst (-1), 1) := by decide +kernel
theorem dX9_restore_10 : decode cX9_restore 10 = .ok (.ireturn, 1) := by decide +kernel
theorem dX9_restore_11 : decode cX9_restore 11 = .ok (.sipush 222, 3) := by decide +kernel
theorem dX9_restore_14 : decode cX9_restore 14 = .ok (.sipush 223, 3) := by decide +kernel
theorem dX9_restore_17 : decode cX9_restore 17 = .ok (.iload_n 1, 1) := by decide +kernel
theorem dX9_restore_18 : decode cX9_restore 18 = .ok (.imul, 1) := by decide +kernel
theorem dX9_restore_19 : decode cX9_restore 19 = .ok (.iadd, 1) := by decide +kernel
theorem dX9_restore_20 : decode cX9_restore 20 = .ok (.istore_n 2, 1) := by decide +kernel
theorem dX9_restore_21 : decode cX9_restore 21 = .ok (.aload_n 0, 1) := by decide +kernel
theorem dX9_restore_22 : decode cX9_restore 22 = .ok (.getfield 7, 3) := by decide +kernel
theorem dX9_restore_25 : decode cX9_restore 25 = .ok (.iload_n 2, 1) := by decide +kernel
theorem dX9_restore_26 : decode cX9_restore 26 = .ok (.iaload, 1) := by decide +kernel
theorem dX9_restore_27 : decode cX9_restore 27 = .ok (.ifCond .ne 6, 3) := by decide +kernel
theorem dX9_restore_30 : decode cX9_restore 30 = .ok (.bipush (-2), 2) := by decide +kernel
theorem dX9_restore_32 : decode cX9_restore 32 = .ok (.ireturn, 1) := by decide +kernel
theorem dX9_restore_33 : decode cX9_restore 33 = .ok (.aload_n 0, 1) := by decide +kernel
theorem dX9_restore_34 : decode cX9_restore 34 = .ok (.invokevirtual 61, 3) := by decide +kernel
theorem dX9_restore_37 : decode cX9_restore 37 = .ok (.iconst 0, 1) := by decide +kernel
theorem dX9_restore_38 : decode cX9_restore 38 = .ok (.istore_n 3, 1) := by decide +kernel
theorem dX9_restore_39 : decode cX9_restore 39 = .ok (.iload_n 3, 1) := by decide +kernel
theorem dX9_restore_40 : decode cX9_restore 40 = .ok (.sipush 222, 3) := by decide +kernel
theorem dX9_restore_43 : decode cX9_restore 43 = .ok (.if_icmp .ge 25, 3) := by decide +kernel
theorem dX9_restore_46 : decode cX9_restore 46 = .ok (.aload_n 0, 1) := by decide +kernel
theorem dX9_restore_47 : decode cX9_restore 47 = .ok (.getfield 7, 3) := by decide +kernel
theorem dX9_restore_50 : decode cX9_restore 50 = .ok (.iload_n 3, 1) := by decide +kernel
theorem dX9_restore_51 : decode cX9_restore 51 = .ok (.aload_n 0, 1) := by decide +kernel
theorem dX9_restore_52 : decode cX9_restore 52 = .ok (.getfield 7, 3) := by decide +kernel
theorem dX9_restore_55 : decode cX9_restore 55 = .ok (.iload_n 2, 1) := by decide +kernel
theorem dX9_restore_56 : decode cX9_restore 56 = .ok (.iconst 1, 1) := by decide +kernel
theorem dX9_restore_57 : decode cX9_restore 57 = .ok (.iadd, 1) := by decide +kernel
theorem dX9_restore_58 : decode cX9_restore 58 = .ok (.iload_n 3, 1) := by decide +kernel
theorem dX9_restore_59 : decode cX9_restore 59 = .ok (.iadd, 1) := by decide +kernel
theorem dX9_restore_60 : decode cX9_restore 60 = .ok (.iaload, 1) := by decide +kernel
theorem dX9_restore_61 : decode cX9_restore 61 = .ok (.iastore, 1) := by decide +kernel
theorem dX9_restore_62 : decode cX9_restore 62 = .ok (.iinc 3 1, 3) := by decide +kernel
theorem dX9_restore_65 : decode cX9_restore 65 = .ok (.goto (-26), 3) := by decide +kernel
theorem dX9_restore_68 : decode cX9_restore 68 = .ok (.aload_n 0, 1) := by decide +kernel
theorem dX9_restore_69 : decode cX9_restore 69 = .ok (.aload_n 0, 1) := by decide +kernel
theorem dX9_restore_70 : decode cX9_restore 70 = .ok (.getfield 7, 3) := by decide +kernel
theorem dX9_restore_73 : decode cX9_restore 73 = .ok (.iconst 0, 1) := by decide +kernel
theorem dX9_restore_74 : decode cX9_restore 74 = .ok (.iaload, 1) := by decide +kernel
theorem dX9_restore_75 : decode cX9_restore 75 = .ok (.invokevirtual 71, 3) := by decide +kernel
theorem dX9_restore_78 : decode cX9_restore 78 = .ok (.ireturn, 1) := by decide +kernel
theorem dX9_undo_0 : decode cX9_undo 0 = .ok (.aload_n 0, 1) := by decide +kernel
theorem dX9_undo_1 : decode cX9_undo 1 = .ok (.getfield 41, 3) := by decide +kernel
theorem dX9_undo_4 : decode cX9_undo 4 = .ok (.ifCond .ne 6, 3) := by decide +kernel
theorem dX9_undo_7 : decode cX9_undo 7 = .ok (.bipush (-2), 2) := by decide +kernel
theorem dX9_undo_9 : decode cX9_undo 9 = .ok (.ireturn, 1) := by decide +kernel
theorem dX9_undo_10 : decode cX9_undo 10 = .ok (.aload_n 0, 1) := by decide +kernel
theorem dX9_undo_11 : decode cX9_undo 11 = .ok (.dup, 1) := by decide +kernel
theorem dX9_undo_12 : decode cX9_undo 12 = .ok (.getfield 41, 3) := by decide +kernel
theorem dX9_undo_15 : decode cX9_undo 15 = .ok (.iconst 1, 1) := by decide +kernel
theorem dX9_undo_16 : decode cX9_undo 16 = .ok (.isub, 1) := by decide +kernel
theorem dX9_undo_17 : decode cX9_undo 17 = .ok (.putfield 41, 3) := by decide +kernel
theorem dX9_undo_20 : decode cX9_undo 20 = .ok (.iconst 0, 1) := by decide +kernel
theorem dX9_undo_21 : decode cX9_undo 21 = .ok (.istore_n 1, 1) := by decide +kernel
theorem dX9_undo_22 : decode cX9_undo 22 = .ok (.iload_n 1, 1) := by decide +kernel
theorem dX9_undo_23 : decode cX9_undo 23 = .ok (.sipush 668, 3) := by decide +kernel
theorem dX9_undo_26 : decode cX9_undo 26 = .ok (.if_icmp .ge 30, 3) := by decide +kernel
theorem dX9_undo_29 : decode cX9_undo 29 = .ok (.aload_n 0, 1) := by decide +kernel
theorem dX9_undo_30 : decode cX9_undo 30 = .ok (.getfield 7, 3) := by decide +kernel
theorem dX9_undo_33 : decode cX9_undo 33 = .ok (.iload_n 1, 1) := by decide +kernel
theorem dX9_undo_34 : decode cX9_undo 34 = .ok (.aload_n 0, 1) := by decide +kernel
theorem dX9_undo_35 : decode cX9_undo 35 = .ok (.getfield 13, 3) := by decide +kernel
theorem dX9_undo_38 : decode cX9_undo 38 = .ok (.sipush 668, 3) := by decide +kernel
theorem dX9_undo_41 : decode cX9_undo 41 = .ok (.aload_n 0, 1) := by decide +kernel
theorem dX9_undo_42 : decode cX9_undo 42 = .ok (.getfield 41, 3) := by decide +kernel
theorem dX9_undo_45 : decode cX9_undo 45 = .ok (.imul, 1) := by decide +kernel
theorem dX9_undo_46 : decode cX9_undo 46 = .ok (.iload_n 1, 1) := by decide +kernel
theorem dX9_undo_47 : decode cX9_undo 47 = .ok (.iadd, 1) := by decide +kernel
theorem dX9_undo_48 : decode cX9_undo 48 = .ok (.iaload, 1) := by decide +kernel
theorem dX9_undo_49 : decode cX9_undo 49 = .ok (.iastore, 1) := by decide +kernel
theorem dX9_undo_50 : decode cX9_undo 50 = .ok (.iinc 1 1, 3) := by decide +kernel
theorem dX9_undo_53 : decode cX9_undo 53 = .ok (.goto (-31), 3) := by decide +kernel
theorem dX9_undo_56 : decode cX9_undo 56 = .ok (.aload_n 0, 1) := by decide +kernel
theorem dX9_undo_57 : decode cX9_undo 57 = .ok (.getfield 41, 3) := by decide +kernel
theorem dX9_undo_60 : decode cX9_undo 60 = .ok (.ireturn, 1) := by decide +kernel
theorem dX9_append_0 : decode cX9_append 0 = .ok (.iload_n 1, 1) := by decide +kernel
theorem dX9_append_1 : decode cX9_append 1 = .ok (.iconst 1, 1) := by decide +kernel
theorem dX9_append_2 : decode cX9_append 2 = .ok (.sipush 255, 3) := by decide +kernel
theorem dX9_append_5 : decode cX9_append 5 = .ok (.invokestatic 29, 3) := by decide +kernel
theorem dX9_append_8 : decode cX9_append 8 = .ok (.ifCond .ne 5, 3) := by decide +kernel
theorem dX9_append_11 : decode cX9_append 11 = .ok (.iconst (-1), 1) := by decide +kernel
theorem dX9_append_12 : decode cX9_append 12 = .ok (.ireturn, 1) := by decide +kernel
theorem dX9_append_13 : decode cX9_append 13 = .ok (.aload_n 0, 1) := by decide +kernel
theorem dX9_append_14 : decode cX9_append 14 = .ok (.getfield 89, 3) := by decide +kernel
theorem dX9_append_17 : decode cX9_append 17 = .ok (.bipush 80, 2) := by decide +kernel
theorem dX9_append_19 : decode cX9_append 19 = .ok (.if_icmp .ne 6, 3) := by decide +kernel
theorem dX9_append_22 : decode cX9_append 22 = .ok (.bipush (-3), 2) := by decide +kernel
theorem dX9_append_24 : decode cX9_append 24 = .ok (.ireturn, 1) := by decide +kernel
theorem dX9_append_25 : decode cX9_append 25 = .ok (.aload_n 0, 1) := by decide +kernel
theorem dX9_append_26 : decode cX9_append 26 = .ok (.getfield 22, 3) := by decide +kernel
theorem dX9_append_29 : decode cX9_append 29 = .ok (.aload_n 0, 1) := by decide +kernel
theorem dX9_append_30 : decode cX9_append 30 = .ok (.getfield 89, 3) := by decide +kernel
theorem dX9_append_33 : decode cX9_append 33 = .ok (.iload_n 1, 1) := by decide +kernel
theorem dX9_append_34 : decode cX9_append 34 = .ok (.iastore, 1) := by decide +kernel
theorem dX9_append_35 : decode cX9_append 35 = .ok (.aload_n 0, 1) := by decide +kernel
theorem dX9_append_36 : decode cX9_append 36 = .ok (.dup, 1) := by decide +kernel
theorem dX9_append_37 : decode cX9_append 37 = .ok (.getfield 89, 3) := by decide +kernel
theorem dX9_append_40 : decode cX9_append 40 = .ok (.iconst 1, 1) := by decide +kernel
theorem dX9_append_41 : decode cX9_append 41 = .ok (.iadd, 1) := by decide +kernel
theorem dX9_append_42 : decode cX9_append 42 = .ok (.putfield 89, 3) := by decide +kernel
theorem dX9_append_45 : decode cX9_append 45 = .ok (.aload_n 0, 1) := by decide +kernel
theorem dX9_append_46 : decode cX9_append 46 = .ok (.getfield 89, 3) := by decide +kernel
theorem dX9_append_49 : decode cX9_append 49 = .ok (.ireturn, 1) := by decide +kernel
theorem dX9_clearText_0 : decode cX9_clearText 0 = .ok (.aload_n 0, 1) := by decide +kernel
theorem dX9_clearText_1 : decode cX9_clearText 1 = .ok (.getfield 89, 3) := by decide +kernel
theorem dX9_clearText_4 : decode cX9_clearText 4 = .ok (.istore_n 1, 1) := by decide +kernel
theorem dX9_clearText_5 : decode cX9_clearText 5 = .ok (.aload_n 0, 1) := by decide +kernel
theorem dX9_clearText_6 : decode cX9_clearText 6 = .ok (.iconst 0, 1) := by decide +kernel
theorem dX9_clearText_7 : decode cX9_clearText 7 = .ok (.putfield 89, 3) := by decide +kernel
theorem dX9_clearText_10 : decode cX9_clearText 10 = .ok (.iload_n 1, 1) := by decide +kernel
theorem dX9_clearText_11 : decode cX9_clearText 11 = .ok (.ireturn, 1) := by decide +kernel
theorem dX9_sign_0 : decode cX9_sign 0 = .ok (.aload_n 0, 1) := by decide +kernel
theorem dX9_sign_1 : decode cX9_sign 1 = .ok (.getfield 92, 3) := by decide +kernel
theorem dX9_sign_4 : decode cX9_sign 4 = .ok (.aload_n 0, 1) := by decide +kernel
theorem dX9_sign_5 : decode cX9_sign 5 = .ok (.getfield 89, 3) := by decide +kernel
theorem dX9_sign_8 : decode cX9_sign 8 = .ok (.if_icmp .ge 15, 3) := by decide +kernel
theorem dX9_sign_11 : decode cX9_sign 11 = .ok (.aload_n 0, 1) := by decide +kernel
theorem dX9_sign_12 : decode cX9_sign 12 = .ok (.getfield 22, 3) := by decide +kernel
theorem dX9_sign_15 : decode cX9_sign 15 = .ok (.aload_n 0, 1) := by decide +kernel
theorem dX9_sign_16 : decode cX9_sign 16 = .ok (.getfield 92, 3) := by decide +kernel
theorem dX9_sign_19 : decode cX9_sign 19 = .ok (.iaload, 1) := by decide +kernel
theorem dX9_sign_20 : decode cX9_sign 20 = .ok (.goto 4, 3) := by decide +kernel
theorem dX9_sign_23 : decode cX9_sign 23 = .ok (.iconst (-1), 1) := by decide +kernel
theorem dX9_sign_24 : decode cX9_sign 24 = .ok (.ireturn, 1) := by decide +kernel
theorem dX9_readsPart_0 : decode cX9_readsPart 0 = .ok (.aload_n 0, 1) := by decide +kernel
theorem dX9_readsPart_1 : decode cX9_readsPart 1 = .ok (.invokevirtual 95, 3) := by decide +kernel
theorem dX9_readsPart_4 : decode cX9_readsPart 4 = .ok (.istore_n 1, 1) := by decide +kernel
theorem dX9_readsPart_5 : decode cX9_readsPart 5 = .ok (.aload_n 0, 1) := by decide +kernel
theorem dX9_readsPart_6 : decode cX9_readsPart 6 = .ok (.iload_n 1, 1) := by decide +kernel
theorem dX9_readsPart_7 : decode cX9_readsPart 7 = .ok (.bipush 116, 2) := by decide +kernel
theorem dX9_readsPart_9 : decode cX9_readsPart 9 = .ok (.if_icmp .ne 7, 3) := by decide +kernel
theorem dX9_readsPart_12 : decode cX9_readsPart 12 = .ok (.iconst 0, 1) := by decide +kernel
theorem dX9_readsPart_13 : decode cX9_readsPart 13 = .ok (.goto 34, 3) := by decide +kernel
theorem dX9_readsPart_16 : decode cX9_readsPart 16 = .ok (.iload_n 1, 1) := by decide +kernel
theorem dX9_readsPart_17 : decode cX9_readsPart 17 = .ok (.bipush 108, 2) := by decide +kernel
theorem dX9_readsPart_19 : decode cX9_readsPart 19 = .ok (.if_icmp .ne 7, 3) := by decide +kernel
theorem dX9_readsPart_22 : decode cX9_readsPart 22 = .ok (.iconst 1, 1) := by decide +kernel
theorem dX9_readsPart_23 : decode cX9_readsPart 23 = .ok (.goto 24, 3) := by decide +kernel
theorem dX9_readsPart_26 : decode cX9_readsPart 26 = .ok (.iload_n 1, 1) := by decide +kernel
theorem dX9_readsPart_27 : decode cX9_readsPart 27 = .ok (.bipush 103, 2) := by decide +kernel
theorem dX9_readsPart_29 : decode cX9_readsPart 29 = .ok (.if_icmp .ne 7, 3) := by decide +kernel
theorem dX9_readsPart_32 : decode cX9_readsPart 32 = .ok (.iconst 2, 1) := by decide +kernel
theorem dX9_readsPart_33 : decode cX9_readsPart 33 = .ok (.goto 14, 3) := by decide +kernel
theorem dX9_readsPart_36 : decode cX9_readsPart 36 = .ok (.iload_n 1, 1) := by decide +kernel
theorem dX9_readsPart_37 : decode cX9_readsPart 37 = .ok (.bipush 112, 2) := by decide +kernel
theorem dX9_readsPart_39 : decode cX9_readsPart 39 = .ok (.if_icmp .ne 7, 3) := by decide +kernel
theorem dX9_readsPart_42 : decode cX9_readsPart 42 = .ok (.iconst 3, 1) := by decide +kernel
theorem dX9_readsPart_43 : decode cX9_readsPart 43 = .ok (.goto 4, 3) := by decide +kernel
theorem dX9_readsPart_46 : decode cX9_readsPart 46 = .ok (.iconst (-1), 1) := by decide +kernel
theorem dX9_readsPart_47 : decode cX9_readsPart 47 = .ok (.putfield 98, 3) := by decide +kernel
theorem dX9_readsPart_50 : decode cX9_readsPart 50 = .ok (.aload_n 0, 1) := by decide +kernel
theorem dX9_readsPart_51 : decode cX9_readsPart 51 = .ok (.iconst 0, 1) := by decide +kernel
theorem dX9_readsPart_52 : decode cX9_readsPart 52 = .ok (.putfield 101, 3) := by decide +kernel
theorem dX9_readsPart_55 : decode cX9_readsPart 55 = .ok (.aload_n 0, 1) := by decide +kernel
theorem dX9_readsPart_56 : decode cX9_readsPart 56 = .ok (.iconst 1, 1) := by decide +kernel
theorem dX9_readsPart_57 : decode cX9_readsPart 57 = .ok (.putfield 104, 3) := by decide +kernel
theorem dX9_readsPart_60 : decode cX9_readsPart 60 = .ok (.aload_n 0, 1) := by decide +kernel
theorem dX9_readsPart_61 : decode cX9_readsPart 61 = .ok (.getfield 98, 3) := by decide +kernel
theorem dX9_readsPart_64 : decode cX9_readsPart 64 = .ok (.ifCond .ge 5, 3) := by decide +kernel
theorem dX9_readsPart_67 : decode cX9_readsPart 67 = .ok (.iconst 0, 1) := by decide +kernel
theorem dX9_readsPart_68 : decode cX9_readsPart 68 = .ok (.ireturn, 1) := by decide +kernel
theorem dX9_readsPart_69 : decode cX9_readsPart 69 = .ok (.aload_n 0, 1) := by decide +kernel
theorem dX9_readsPart_70 : decode cX9_readsPart 70 = .ok (.dup, 1) := by decide +kernel
theorem dX9_readsPart_71 : decode cX9_readsPart 71 = .ok (.getfield 92, 3) := by decide +kernel
theorem dX9_readsPart_74 : decode cX9_readsPart 74 = .ok (.iconst 1, 1) := by decide +kernel
theorem dX9_readsPart_75 : decode cX9_readsPart 75 = .ok (.iadd, 1) := by decide +kernel
theorem dX9_readsPart_76 : decode cX9_readsPart 76 = .ok (.putfield 92, 3) := by decide +kernel
theorem dX9_readsPart_79 : decode cX9_readsPart 79 = .ok (.aload_n 0, 1) := by decide +kernel
theorem dX9_readsPart_80 : decode cX9_readsPart 80 = .ok (.getfield 98, 3) := by decide +kernel
theorem dX9_readsPart_83 : decode cX9_readsPart 83 = .ok (.iconst 2, 1) := by decide +kernel
theorem dX9_readsPart_84 : decode cX9_readsPart 84 = .ok (.if_icmp .ge 40, 3) := by decide +kernel
theorem dX9_readsPart_87 : decode cX9_readsPart 87 = .ok (.aload_n 0, 1) := by decide +kernel
theorem dX9_readsPart_88 : decode cX9_readsPart 88 = .ok (.invokevirtual 95, 3) := by decide +kernel
theorem dX9_readsPart_91 : decode cX9_readsPart 91 = .ok (.bipush 49, 2) := by decide +kernel
theorem dX9_readsPart_93 : decode cX9_readsPart 93 = .ok (.bipush 57, 2) := by decide +kernel
theorem dX9_readsPart_95 : decode cX9_readsPart 95 = .ok (.invokestatic 29, 3) := by decide +kernel
theorem dX9_readsPart_98 : decode cX9_readsPart 98 = .ok (.ifCond .ne 5, 3) := by decide +kernel
theorem dX9_readsPart_101 : decode cX9_readsPart 101 = .ok (.iconst 0, 1) := by decide +kernel
theorem dX9_readsPart_102 : decode cX9_readsPart 102 = .ok (.ireturn, 1) := by decide +kernel
theorem dX9_readsPart_103 : decode cX9_readsPart 103 = .ok (.aload_n 0, 1) := by decide +kernel
theorem dX9_readsPart_104 : decode cX9_readsPart 104 = .ok (.aload_n 0, 1) := by decide +kernel
theorem dX9_readsPart_105 : decode cX9_readsPart 105 = .ok (.invokevirtual 95, 3) := by decide +kernel
theorem dX9_readsPart_108 : decode cX9_readsPart 108 = .ok (.bipush 48, 2) := by decide +kernel
theorem dX9_readsPart_110 : decode cX9_readsPart 110 = .ok (.isub, 1) := by decide +kernel
theorem dX9_readsPart_111 : decode cX9_readsPart 111 = .ok (.putfield 101, 3) := by decide +kernel
theorem dX9_readsPart_114 : decode cX9_readsPart 114 = .ok (.aload_n 0, 1) := by decide +kernel
theorem dX9_readsPart_115 : decode cX9_readsPart 115 = .ok (.dup, 1) := by decide +kernel
theorem dX9_readsPart_116 : decode cX9_readsPart 116 = .ok (.getfield 92, 3) := by decide +kernel
theorem dX9_readsPart_119 : decode cX9_readsPart 119 = .ok (.iconst 1, 1) := by decide +kernel
theorem dX9_readsPart_120 : decode cX9_readsPart 120 = .ok (.iadd, 1) := by decide +kernel
theorem dX9_readsPart_121 : decode cX9_readsPart 121 = .ok (.putfield 92, 3) := by decide +kernel
theorem dX9_readsPart_124 : decode cX9_readsPart 124 = .ok (.aload_n 0, 1) := by decide +kernel
theorem dX9_readsPart_125 : decode cX9_readsPart 125 = .ok (.invokevirtual 95, 3) := by decide +kernel
theorem dX9_readsPart_128 : decode cX9_readsPart 128 = .ok (.bipush 42, 2) := by decide +kernel
theorem dX9_readsPart_130 : decode cX9_readsPart 130 = .ok (.if_icmp .eq 5, 3) := by decide +kernel
theorem dX9_readsPart_133 : decode cX9_readsPart 133 = .ok (.iconst 1, 1) := by decide +kernel
theorem dX9_readsPart_134 : decode cX9_readsPart 134 = .ok (.ireturn, 1) := by decide +kernel
theorem dX9_readsPart_135 : decode cX9_readsPart 135 = .ok (.aload_n 0, 1) := by decide +kernel
theorem dX9_readsPart_136 : decode cX9_readsPart 136 = .ok (.dup, 1) := by decide +kernel
theorem dX9_readsPart_137 : decode cX9_readsPart 137 = .ok (.getfield 92, 3) := by decide +kernel
theorem dX9_readsPart_140 : decode cX9_readsPart 140 = .ok (.iconst 1, 1) := by decide +kernel
theorem dX9_readsPart_141 : decode cX9_readsPart 141 = .ok (.iadd, 1) := by decide +kernel
theorem dX9_readsPart_142 : decode cX9_readsPart 142 = .ok (.putfield 92, 3) := by decide +kernel
theorem dX9_readsPart_145 : decode cX9_readsPart 145 = .ok (.aload_n 0, 1) := by decide +kernel
theorem dX9_readsPart_146 : decode cX9_readsPart 146 = .ok (.invokevirtual 95, 3) := by decide +kernel
theorem dX9_readsPart_149 : decode cX9_readsPart 149 = .ok (.bipush 49, 2) := by decide +kernel
theorem dX9_readsPart_151 : decode cX9_readsPart 151 = .ok (.bipush 57, 2) := by decide +kernel
theorem dX9_readsPart_153 : decode cX9_readsPart 153 = .ok (.invokestatic 29, 3) := by decide +kernel
theorem dX9_readsPart_156 : decode cX9_readsPart 156 = .ok (.ifCond .ne 5, 3) := by decide +kernel
theorem dX9_readsPart_159 : decode cX9_readsPart 159 = .ok (.iconst 0, 1) := by decide +kernel
theorem dX9_readsPart_160 : decode cX9_readsPart 160 = .ok (.ireturn, 1) := by decide +kernel
theorem dX9_readsPart_161 : decode cX9_readsPart 161 = .ok (.aload_n 0, 1) := by decide +kernel
theorem dX9_readsPart_162 : decode cX9_readsPart 162 = .ok (.aload_n 0, 1) := by decide +kernel
theorem dX9_readsPart_163 : decode cX9_readsPart 163 = .ok (.invokevirtual 95, 3) := by decide +kernel
theorem dX9_readsPart_166 : decode cX9_readsPart 166 = .ok (.bipush 48, 2) := by decide +kernel
theorem dX9_readsPart_168 : decode cX9_readsPart 168 = .ok (.isub, 1) := by decide +kernel
theorem dX9_readsPart_169 : decode cX9_readsPart 169 = .ok (.putfield 104, 3) := by decide +kernel
theorem dX9_readsPart_172 : decode cX9_readsPart 172 = .ok (.aload_n 0, 1) := by decide +kernel
theorem dX9_readsPart_173 : decode cX9_readsPart 173 = .ok (.dup, 1) := by decide +kernel
theorem dX9_readsPart_174 : decode cX9_readsPart 174 = .ok (.getfield 92, 3) := by decide +kernel
theorem dX9_readsPart_177 : decode cX9_readsPart 177 = .ok (.iconst 1, 1) := by decide +kernel
theorem dX9_readsPart_178 : decode cX9_readsPart 178 = .ok (.iadd, 1) := by decide +kernel
theorem dX9_readsPart_179 : decode cX9_readsPart 179 = .ok (.putfield 92, 3) := by decide +kernel
theorem dX9_readsPart_182 : decode cX9_readsPart 182 = .ok (.aload_n 0, 1) := by decide +kernel
theorem dX9_readsPart_183 : decode cX9_readsPart 183 = .ok (.invokevirtual 95, 3) := by decide +kernel
theorem dX9_readsPart_186 : decode cX9_readsPart 186 = .ok (.bipush 48, 2) := by decide +kernel
theorem dX9_readsPart_188 : decode cX9_readsPart 188 = .ok (.bipush 57, 2) := by decide +kernel
theorem dX9_readsPart_190 : decode cX9_readsPart 190 = .ok (.invokestatic 29, 3) := by decide +kernel
theorem dX9_readsPart_193 : decode cX9_readsPart 193 = .ok (.ifCond .eq 57, 3) := by decide +kernel
theorem dX9_readsPart_196 : decode cX9_readsPart 196 = .ok (.bipush 10, 2) := by decide +kernel
theorem dX9_readsPart_198 : decode cX9_readsPart 198 = .ok (.aload_n 0, 1) := by decide +kernel
theorem dX9_readsPart_199 : decode cX9_readsPart 199 = .ok (.getfield 104, 3) := by decide +kernel
theorem dX9_readsPart_202 : decode cX9_readsPart 202 = .ok (.imul, 1) := by decide +kernel
theorem dX9_readsPart_203 : decode cX9_readsPart 203 = .ok (.aload_n 0, 1) := by decide +kernel
theorem dX9_readsPart_204 : decode cX9_readsPart 204 = .ok (.invokevirtual 95, 3) := by decide +kernel
theorem dX9_readsPart_207 : decode cX9_readsPart 207 = .ok (.iadd, 1) := by decide +kernel
theorem dX9_readsPart_208 : decode cX9_readsPart 208 = .ok (.bipush 48, 2) := by decide +kernel
theorem dX9_readsPart_210 : decode cX9_readsPart 210 = .ok (.isub, 1) := by decide +kernel
theorem dX9_readsPart_211 : decode cX9_readsPart 211 = .ok (.bipush 30, 2) := by decide +kernel
theorem dX9_readsPart_213 : decode cX9_readsPart 213 = .ok (.if_icmp .le 5, 3) := by decide +kernel
theorem dX9_readsPart_216 : decode cX9_readsPart 216 = .ok (.iconst 0, 1) := by decide +kernel
theorem dX9_readsPart_217 : decode cX9_readsPart 217 = .ok (.ireturn, 1) := by decide +kernel
theorem dX9_readsPart_218 : decode cX9_readsPart 218 = .ok (.aload_n 0, 1) := by decide +kernel
theorem dX9_readsPart_219 : decode cX9_readsPart 219 = .ok (.bipush 10, 2) := by decide +kernel
theorem dX9_readsPart_221 : decode cX9_readsPart 221 = .ok (.aload_n 0, 1) := by decide +kernel
theorem dX9_readsPart_222 : decode cX9_readsPart 222 = .ok (.getfield 104, 3) := by decide +kernel
theorem dX9_readsPart_225 : decode cX9_readsPart 225 = .ok (.imul, 1) := by decide +kernel
theorem dX9_readsPart_226 : decode cX9_readsPart 226 = .ok (.aload_n 0, 1) := by decide +kernel
theorem dX9_readsPart_227 : decode cX9_readsPart 227 = .ok (.invokevirtual 95, 3) := by decide +kernel
theorem dX9_readsPart_230 : decode cX9_readsPart 230 = .ok (.iadd, 1) := by decide +kernel
theorem dX9_readsPart_231 : decode cX9_readsPart 231 = .ok (.bipush 48, 2) := by decide +kernel
theorem dX9_readsPart_233 : decode cX9_readsPart 233 = .ok (.isub, 1) := by decide +kernel
theorem dX9_readsPart_234 : decode cX9_readsPart 234 = .ok (.putfield 104, 3) := by decide +kernel
theorem dX9_readsPart_237 : decode cX9_readsPart 237 = .ok (.aload_n 0, 1) := by decide +kernel
theorem dX9_readsPart_238 : decode cX9_readsPart 238 = .ok (.dup, 1) := by decide +kernel
theorem dX9_readsPart_239 : decode cX9_readsPart 239 = .ok (.getfield 92, 3) := by decide +kernel
theorem dX9_readsPart_242 : decode cX9_readsPart 242 = .ok (.iconst 1, 1) := by decide +kernel
theorem dX9_readsPart_243 : decode cX9_readsPart 243 = .ok (.iadd, 1) := by decide +kernel
theorem dX9_readsPart_244 : decode cX9_readsPart 244 = .ok (.putfield 92, 3) := by decide +kernel
theorem dX9_readsPart_247 : decode cX9_readsPart 247 = .ok (.goto (-65), 3) := by decide +kernel
theorem dX9_readsPart_250 : decode cX9_readsPart 250 = .ok (.iconst 1, 1) := by decide +kernel
theorem dX9_readsPart_251 : decode cX9_readsPart 251 = .ok (.ireturn, 1) := by decide +kernel
theorem dX9_chains_0 : decode cX9_chains 0 = .ok (.aload_n 0, 1) := by decide +kernel
theorem dX9_chains_1 : decode cX9_chains 1 = .ok (.iconst 0, 1) := by decide +kernel
theorem dX9_chains_2 : decode cX9_chains 2 = .ok (.putfield 92, 3) := by decide +kernel
theorem dX9_chains_5 : decode cX9_chains 5 = .ok (.iconst 0, 1) := by decide +kernel
theorem dX9_chains_6 : decode cX9_chains 6 = .ok (.istore_n 1, 1) := by decide +kernel
theorem dX9_chains_7 : decode cX9_chains 7 = .ok (.aload_n 0, 1) := by decide +kernel
theorem dX9_chains_8 : decode cX9_chains 8 = .ok (.getfield 89, 3) := by decide +kernel
theorem dX9_chains_11 : decode cX9_chains 11 = .ok (.ifCond .le 7, 3) := by decide +kernel
theorem dX9_chains_14 : decode cX9_chains 14 = .ok (.iconst 1, 1) := by decide +kernel
theorem dX9_chains_15 : decode cX9_chains 15 = .ok (.goto 4, 3) := by decide +kernel
theorem dX9_chains_18 : decode cX9_chains 18 = .ok (.iconst 0, 1) := by decide +kernel
theorem dX9_chains_19 : decode cX9_chains 19 = .ok (.istore_n 2, 1) := by decide +kernel
theorem dX9_chains_20 : decode cX9_chains 20 = .ok (.iload_n 2, 1) := by decide +kernel
theorem dX9_chains_21 : decode cX9_chains 21 = .ok (.ifCond .eq 29, 3) := by decide +kernel
theorem dX9_chains_24 : decode cX9_chains 24 = .ok (.aload_n 0, 1) := by decide +kernel
theorem dX9_chains_25 : decode cX9_chains 25 = .ok (.getfield 92, 3) := by decide +kernel
theorem dX9_chains_28 : decode cX9_chains 28 = .ok (.aload_n 0, 1) := by decide +kernel
theorem dX9_chains_29 : decode cX9_chains 29 = .ok (.getfield 89, 3) := by decide +kernel
theorem dX9_chains_32 : decode cX9_chains 32 = .ok (.if_icmp .ge 18, 3) := by decide +kernel
theorem dX9_chains_35 : decode cX9_chains 35 = .ok (.aload_n 0, 1) := by decide +kernel
theorem dX9_chains_36 : decode cX9_chains 36 = .ok (.invokevirtual 107, 3) := by decide +kernel
theorem dX9_chains_39 : decode cX9_chains 39 = .ok (.istore_n 2, 1) := by decide +kernel
theorem dX9_chains_40 : decode cX9_chains 40 = .ok (.iload_n 1, 1) := by decide +kernel
theorem dX9_chains_41 : decode cX9_chains 41 = .ok (.aload_n 0, 1) := by decide +kernel
theorem dX9_chains_42 : decode cX9_chains 42 = .ok (.getfield 104, 3) := by decide +kernel
theorem dX9_chains_45 : decode cX9_chains 45 = .ok (.iadd, 1) := by decide +kernel
theorem dX9_chains_46 : decode cX9_chains 46 = .ok (.istore_n 1, 1) := by decide +kernel
theorem dX9_chains_47 : decode cX9_chains 47 = .ok (.goto (-27), 3) := by decide +kernel
theorem dX9_chains_50 : decode cX9_chains 50 = .ok (.iload_n 2, 1) := by decide +kernel
theorem dX9_chains_51 : decode cX9_chains 51 = .ok (.ifCond .eq 7, 3) := by decide +kernel
theorem dX9_chains_54 : decode cX9_chains 54 = .ok (.iload_n 1, 1) := by decide +kernel
theorem dX9_chains_55 : decode cX9_chains 55 = .ok (.goto 4, 3) := by decide +kernel
theorem dX9_chains_58 : decode cX9_chains 58 = .ok (.iconst (-1), 1) := by decide +kernel
theorem dX9_chains_59 : decode cX9_chains 59 = .ok (.ireturn, 1) := by decide +kernel
theorem dX9_read_0 : decode cX9_read 0 = .ok (.iload_n 1, 1) := by decide +kernel
theorem dX9_read_1 : decode cX9_read 1 = .ok (.invokestatic 33, 3) := by decide +kernel
theorem dX9_read_4 : decode cX9_read 4 = .ok (.ifCond .ne 5, 3) := by decide +kernel
theorem dX9_read_7 : decode cX9_read 7 = .ok (.iconst (-1), 1) := by decide +kernel
theorem dX9_read_8 : decode cX9_read 8 = .ok (.ireturn, 1) := by decide +kernel
theorem dX9_read_9 : decode cX9_read 9 = .ok (.aload_n 0, 1) := by decide +kernel
theorem dX9_read_10 : decode cX9_read 10 = .ok (.invokevirtual 111, 3) := by decide +kernel
theorem dX9_read_13 : decode cX9_read 13 = .ok (.istore_n 2, 1) := by decide +kernel
theorem dX9_read_14 : decode cX9_read 14 = .ok (.iload_n 2, 1) := by decide +kernel
theorem dX9_read_15 : decode cX9_read 15 = .ok (.ifCond .ge 12, 3) := by decide +kernel
theorem dX9_read_18 : decode cX9_read 18 = .ok (.sipush (-1000), 3) := by decide +kernel
theorem dX9_read_21 : decode cX9_read 21 = .ok (.aload_n 0, 1) := by decide +kernel
theorem dX9_read_22 : decode cX9_read 22 = .ok (.getfield 92, 3) := by decide +kernel
theorem dX9_read_25 : decode cX9_read 25 = .ok (.isub, 1) := by decide +kernel
theorem dX9_read_26 : decode cX9_read 26 = .ok (.ireturn, 1) := by decide +kernel
theorem dX9_read_27 : decode cX9_read 27 = .ok (.iload_n 2, 1) := by decide +kernel
theorem dX9_read_28 : decode cX9_read 28 = .ok (.bipush 30, 2) := by decide +kernel
theorem dX9_read_30 : decode cX9_read 30 = .ok (.if_icmp .le 6, 3) := by decide +kernel
theorem dX9_read_33 : decode cX9_read 33 = .ok (.bipush (-3), 2) := by decide +kernel
theorem dX9_read_35 : decode cX9_read 35 = .ok (.ireturn, 1) := by decide +kernel
theorem dX9_read_36 : decode cX9_read 36 = .ok (.aload_n 0, 1) := by decide +kernel
theorem dX9_read_37 : decode cX9_read 37 = .ok (.invokevirtual 61, 3) := by decide +kernel
theorem dX9_read_40 : decode cX9_read 40 = .ok (.aload_n 0, 1) := by decide +kernel
theorem dX9_read_41 : decode cX9_read 41 = .ok (.getfield 7, 3) := by decide +kernel
theorem dX9_read_44 : decode cX9_read 44 = .ok (.bipush 12, 2) := by decide +kernel
theorem dX9_read_46 : decode cX9_read 46 = .ok (.iload_n 1, 1) := by decide +kernel
theorem dX9_read_47 : decode cX9_read 47 = .ok (.iadd, 1) := by decide +kernel
theorem dX9_read_48 : decode cX9_read 48 = .ok (.iconst 0, 1) := by decide +kernel
theorem dX9_read_49 : decode cX9_read 49 = .ok (.iastore, 1) := by decide +kernel
theorem dX9_read_50 : decode cX9_read 50 = .ok (.aload_n 0, 1) := by decide +kernel
theorem dX9_read_51 : decode cX9_read 51 = .ok (.iconst 0, 1) := by decide +kernel
theorem dX9_read_52 : decode cX9_read 52 = .ok (.putfield 92, 3) := by decide +kernel
theorem dX9_read_55 : decode cX9_read 55 = .ok (.aload_n 0, 1) := by decide +kernel
theorem dX9_read_56 : decode cX9_read 56 = .ok (.getfield 92, 3) := by decide +kernel
theorem dX9_read_59 : decode cX9_read 59 = .ok (.aload_n 0, 1) := by decide +kernel
theorem dX9_read_60 : decode cX9_read 60 = .ok (.getfield 89, 3) := by decide +kernel
theorem dX9_read_63 : decode cX9_read 63 = .ok (.if_icmp .ge 62, 3) := by decide +kernel
theorem dX9_read_66 : decode cX9_read 66 = .ok (.aload_n 0, 1) := by decide +kernel
theorem dX9_read_67 : decode cX9_read 67 = .ok (.invokevirtual 107, 3) := by decide +kernel
theorem dX9_read_70 : decode cX9_read 70 = .ok (.pop, 1) := by decide +kernel
theorem dX9_read_71 : decode cX9_read 71 = .ok (.iconst 0, 1) := by decide +kernel
theorem dX9_read_72 : decode cX9_read 72 = .ok (.istore_n 3, 1) := by decide +kernel
theorem dX9_read_73 : decode cX9_read 73 = .ok (.iload_n 3, 1) := by decide +kernel
theorem dX9_read_74 : decode cX9_read 74 = .ok (.aload_n 0, 1) := by decide +kernel
theorem dX9_read_75 : decode cX9_read 75 = .ok (.getfield 104, 3) := by decide +kernel
theorem dX9_read_78 : decode cX9_read 78 = .ok (.if_icmp .ge 44, 3) := by decide +kernel
theorem dX9_read_81 : decode cX9_read 81 = .ok (.aload_n 0, 1) := by decide +kernel
theorem dX9_read_82 : decode cX9_read 82 = .ok (.iload_n 1, 1) := by decide +kernel
theorem dX9_read_83 : decode cX9_read 83 = .ok (.aload_n 0, 1) := by decide +kernel
theorem dX9_read_84 : decode cX9_read 84 = .ok (.getfield 7, 3) := by decide +kernel
theorem dX9_read_87 : decode cX9_read 87 = .ok (.bipush 12, 2) := by decide +kernel
theorem dX9_read_89 : decode cX9_read 89 = .ok (.iload_n 1, 1) := by decide +kernel
theorem dX9_read_90 : decode cX9_read 90 = .ok (.iadd, 1) := by decide +kernel
theorem dX9_read_91 : decode cX9_read 91 = .ok (.iaload, 1) := by decide +kernel
theorem dX9_read_92 : decode cX9_read 92 = .ok (.aload_n 0, 1) := by decide +kernel
theorem dX9_read_93 : decode cX9_read 93 = .ok (.getfield 98, 3) := by decide +kernel
theorem dX9_read_96 : decode cX9_read 96 = .ok (.aload_n 0, 1) := by decide +kernel
theorem dX9_read_97 : decode cX9_read 97 = .ok (.getfield 101, 3) := by decide +kernel
theorem dX9_read_100 : decode cX9_read 100 = .ok (.invokevirtual 25, 3) := by decide +kernel
theorem dX9_read_103 : decode cX9_read 103 = .ok (.aload_n 0, 1) := by decide +kernel
theorem dX9_read_104 : decode cX9_read 104 = .ok (.getfield 7, 3) := by decide +kernel
theorem dX9_read_107 : decode cX9_read 107 = .ok (.bipush 12, 2) := by decide +kernel
theorem dX9_read_109 : decode cX9_read 109 = .ok (.iload_n 1, 1) := by decide +kernel
theorem dX9_read_110 : decode cX9_read 110 = .ok (.iadd, 1) := by decide +kernel
theorem dX9_read_111 : decode cX9_read 111 = .ok (.dup2, 1) := by decide +kernel
theorem dX9_read_112 : decode cX9_read 112 = .ok (.iaload, 1) := by decide +kernel
theorem dX9_read_113 : decode cX9_read 113 = .ok (.iconst 1, 1) := by decide +kernel
theorem dX9_read_114 : decode cX9_read 114 = .ok (.iadd, 1) := by decide +kernel
theorem dX9_read_115 : decode cX9_read 115 = .ok (.iastore, 1) := by decide +kernel
theorem dX9_read_116 : decode cX9_read 116 = .ok (.iinc 3 1, 3) := by decide +kernel
theorem dX9_read_119 : decode cX9_read 119 = .ok (.goto (-46), 3) := by decide +kernel
theorem dX9_read_122 : decode cX9_read 122 = .ok (.goto (-67), 3) := by decide +kernel
theorem dX9_read_125 : decode cX9_read 125 = .ok (.iload_n 2, 1) := by decide +kernel
theorem dX9_read_126 : decode cX9_read 126 = .ok (.istore_n 3, 1) := by decide +kernel
theorem dX9_read_127 : decode cX9_read 127 = .ok (.iload_n 3, 1) := by decide +kernel
theorem dX9_read_128 : decode cX9_read 128 = .ok (.bipush 30, 2) := by decide +kernel
theorem dX9_read_130 : decode cX9_read 130 = .ok (.if_icmp .ge 24, 3) := by decide +kernel
theorem dX9_read_133 : decode cX9_read 133 = .ok (.aload_n 0, 1) := by decide +kernel
theorem dX9_read_134 : decode cX9_read 134 = .ok (.getfield 7, 3) := by decide +kernel
theorem dX9_read_137 : decode cX9_read 137 = .ok (.bipush 42, 2) := by decide +kernel
theorem dX9_read_139 : decode cX9_read 139 = .ok (.bipush 30, 2) := by decide +kernel
theorem dX9_read_141 : decode cX9_read 141 = .ok (.iload_n 1, 1) := by decide +kernel
theorem dX9_read_142 : decode cX9_read 142 = .ok (.imul, 1) := by decide +kernel
theorem dX9_read_143 : decode cX9_read 143 = .ok (.iadd, 1) := by decide +kernel
theorem dX9_read_144 : decode cX9_read 144 = .ok (.iload_n 3, 1) := by decide +kernel
theorem dX9_read_145 : decode cX9_read 145 = .ok (.iadd, 1) := by decide +kernel
theorem dX9_read_146 : decode cX9_read 146 = .ok (.iconst 0, 1) := by decide +kernel
theorem dX9_read_147 : decode cX9_read 147 = .ok (.iastore, 1) := by decide +kernel
theorem dX9_read_148 : decode cX9_read 148 = .ok (.iinc 3 1, 3) := by decide +kernel
theorem dX9_read_151 : decode cX9_read 151 = .ok (.goto (-24), 3) := by decide +kernel
theorem dX9_read_154 : decode cX9_read 154 = .ok (.aload_n 0, 1) := by decide +kernel
theorem dX9_read_155 : decode cX9_read 155 = .ok (.iconst 0, 1) := by decide +kernel
theorem dX9_read_156 : decode cX9_read 156 = .ok (.putfield 89, 3) := by decide +kernel
theorem dX9_read_159 : decode cX9_read 159 = .ok (.aload_n 0, 1) := by decide +kernel
theorem dX9_read_160 : decode cX9_read 160 = .ok (.iload_n 1, 1) := by decide +kernel
theorem dX9_read_161 : decode cX9_read 161 = .ok (.invokevirtual 67, 3) := by decide +kernel
theorem dX9_read_164 : decode cX9_read 164 = .ok (.aload_n 0, 1) := by decide +kernel
theorem dX9_read_165 : decode cX9_read 165 = .ok (.iload_n 2, 1) := by decide +kernel
theorem dX9_read_166 : decode cX9_read 166 = .ok (.invokevirtual 71, 3) := by decide +kernel
theorem dX9_read_169 : decode cX9_read 169 = .ok (.ireturn, 1) := by decide +kernel
theorem dX9_contracts_0 : decode cX9_contracts 0 = .ok (.iconst 0, 1) := by decide +kernel
theorem dX9_contracts_1 : decode cX9_contracts 1 = .ok (.istore_n 1, 1) := by decide +kernel
theorem dX9_contracts_2 : decode cX9_contracts 2 = .ok (.iconst 0, 1) := by decide +kernel
theorem dX9_contracts_3 : decode cX9_contracts 3 = .ok (.istore_n 2, 1) := by decide +kernel
theorem dX9_contracts_4 : decode cX9_contracts 4 = .ok (.iload_n 2, 1) := by decide +kernel
theorem dX9_contracts_5 : decode cX9_contracts 5 = .ok (.bipush 6, 2) := by decide +kernel
theorem dX9_contracts_7 : decode cX9_contracts 7 = .ok (.if_icmp .ge 18, 3) := by decide +kernel
theorem dX9_contracts_10 : decode cX9_contracts 10 = .ok (.iload_n 1, 1) := by decide +kernel
theorem dX9_contracts_11 : decode cX9_contracts 11 = .ok (.aload_n 0, 1) := by decide +kernel
theorem dX9_contracts_12 : decode cX9_contracts 12 = .ok (.iload_n 2, 1) := by decide +kernel
theorem dX9_contracts_13 : decode cX9_contracts 13 = .ok (.iconst 0, 1) := by decide +kernel
theorem dX9_contracts_14 : decode cX9_contracts 14 = .ok (.invokevirtual 64, 3) := by decide +kernel
theorem dX9_contracts_17 : decode cX9_contracts 17 = .ok (.iadd, 1) := by decide +kernel
theorem dX9_contracts_18 : decode cX9_contracts 18 = .ok (.istore_n 1, 1) := by decide +kernel
theorem dX9_contracts_19 : decode cX9_contracts 19 = .ok (.iinc 2 1, 3) := by decide +kernel
theorem dX9_contracts_22 : decode cX9_contracts 22 = .ok (.goto (-18), 3) := by decide +kernel
theorem dX9_contracts_25 : decode cX9_contracts 25 = .ok (.iload_n 1, 1) := by decide +kernel
theorem dX9_contracts_26 : decode cX9_contracts 26 = .ok (.ireturn, 1) := by decide +kernel
theorem dX9_count_0 : decode cX9_count 0 = .ok (.iload_n 1, 1) := by decide +kernel
theorem dX9_count_1 : decode cX9_count 1 = .ok (.tableswitch 180 0 17 #[87, 94, 104, 123, 123, 123, 123, 123, 123, 134, 139, 139, 139, 139, 139, 152, 170, 175], 87) := by decide +kernel
theorem dX9_count_88 : decode cX9_count 88 = .ok (.aload_n 0, 1) := by decide +kernel
theorem dX9_count_89 : decode cX9_count 89 = .ok (.getfield 7, 3) := by decide +kernel
theorem dX9_count_92 : decode cX9_count 92 = .ok (.iconst 0, 1) := by decide +kernel
theorem dX9_count_93 : decode cX9_count 93 = .ok (.iaload, 1) := by decide +kernel
theorem dX9_count_94 : decode cX9_count 94 = .ok (.ireturn, 1) := by decide +kernel
theorem dX9_count_95 : decode cX9_count 95 = .ok (.aload_n 0, 1) := by decide +kernel
theorem dX9_count_96 : decode cX9_count 96 = .ok (.getfield 7, 3) := by decide +kernel
theorem dX9_count_99 : decode cX9_count 99 = .ok (.iconst 0, 1) := by decide +kernel
theorem dX9_count_100 : decode cX9_count 100 = .ok (.iaload, 1) := by decide +kernel
theorem dX9_count_101 : decode cX9_count 101 = .ok (.bipush 52, 2) := by decide +kernel
theorem dX9_count_103 : decode cX9_count 103 = .ok (.irem, 1) := by decide +kernel
theorem dX9_count_104 : decode cX9_count 104 = .ok (.ireturn, 1) := by decide +kernel
theorem dX9_count_105 : decode cX9_count 105 = .ok (.aload_n 0, 1) := by decide +kernel
theorem dX9_count_106 : decode cX9_count 106 = .ok (.aload_n 0, 1) := by decide +kernel
theorem dX9_count_107 : decode cX9_count 107 = .ok (.getfield 7, 3) := by decide +kernel
theorem dX9_count_110 : decode cX9_count 110 = .ok (.iconst 0, 1) := by decide +kernel
theorem dX9_count_111 : decode cX9_count 111 = .ok (.iaload, 1) := by decide +kernel
theorem dX9_count_112 : decode cX9_count 112 = .ok (.invokevirtual 55, 3) := by decide +kernel
theorem dX9_count_115 : decode cX9_count 115 = .ok (.ifCond .eq 7, 3) := by decide +kernel
theorem dX9_count_118 : decode cX9_count 118 = .ok (.iconst 1, 1) := by decide +kernel
theorem dX9_count_119 : decode cX9_count 119 = .ok (.goto 4, 3) := by decide +kernel
theorem dX9_count_122 : decode cX9_count 122 = .ok (.iconst 0, 1) := by decide +kernel
theorem dX9_count_123 : decode cX9_count 123 = .ok (.ireturn, 1) := by decide +kernel
theorem dX9_count_124 : decode cX9_count 124 = .ok (.aload_n 0, 1) := by decide +kernel
theorem dX9_count_125 : decode cX9_count 125 = .ok (.getfield 7, 3) := by decide +kernel
theorem dX9_count_128 : decode cX9_count 128 = .ok (.iconst 1, 1) := by decide +kernel
theorem dX9_count_129 : decode cX9_count 129 = .ok (.iload_n 1, 1) := by decide +kernel
theorem dX9_count_130 : decode cX9_count 130 = .ok (.iadd, 1) := by decide +kernel
theorem dX9_count_131 : decode cX9_count 131 = .ok (.iconst 3, 1) := by decide +kernel
theorem dX9_count_132 : decode cX9_count 132 = .ok (.isub, 1) := by decide +kernel
theorem dX9_count_133 : decode cX9_count 133 = .ok (.iaload, 1) := by decide +kernel
theorem dX9_count_134 : decode cX9_count 134 = .ok (.ireturn, 1) := by decide +kernel
theorem dX9_count_135 : decode cX9_count 135 = .ok (.aload_n 0, 1) := by decide +kernel
theorem dX9_count_136 : decode cX9_count 136 = .ok (.invokevirtual 114, 3) := by decide +kernel
theorem dX9_count_139 : decode cX9_count 139 = .ok (.ireturn, 1) := by decide +kernel
theorem dX9_count_140 : decode cX9_count 140 = .ok (.aload_n 0, 1) := by decide +kernel
theorem dX9_count_141 : decode cX9_count 141 = .ok (.getfield 7, 3) := by decide +kernel
theorem dX9_count_144 : decode cX9_count 144 = .ok (.bipush 7, 2) := by decide +kernel
theorem dX9_count_146 : decode cX9_count 146 = .ok (.iload_n 1, 1) := by decide +kernel
theorem dX9_count_147 : decode cX9_count 147 = .ok (.iadd, 1) := by decide +kernel
theorem dX9_count_148 : decode cX9_count 148 = .ok (.bipush 10, 2) := by decide +kernel
theorem dX9_count_150 : decode cX9_count 150 = .ok (.isub, 1) := by decide +kernel
theorem dX9_count_151 : decode cX9_count 151 = .ok (.iaload, 1) := by decide +kernel
theorem dX9_count_152 : decode cX9_count 152 = .ok (.ireturn, 1) := by decide +kernel
theorem dX9_count_153 : decode cX9_count 153 = .ok (.aload_n 0, 1) := by decide +kernel
theorem dX9_count_154 : decode cX9_count 154 = .ok (.getfield 7, 3) := by decide +kernel
theorem dX9_count_157 : decode cX9_count 157 = .ok (.sipush 222, 3) := by decide +kernel
theorem dX9_count_160 : decode cX9_count 160 = .ok (.iaload, 1) := by decide +kernel
theorem dX9_count_161 : decode cX9_count 161 = .ok (.aload_n 0, 1) := by decide +kernel
theorem dX9_count_162 : decode cX9_count 162 = .ok (.getfield 7, 3) := by decide +kernel
theorem dX9_count_165 : decode cX9_count 165 = .ok (.sipush 445, 3) := by decide +kernel
theorem dX9_count_168 : decode cX9_count 168 = .ok (.iaload, 1) := by decide +kernel
theorem dX9_count_169 : decode cX9_count 169 = .ok (.iadd, 1) := by decide +kernel
theorem dX9_count_170 : decode cX9_count 170 = .ok (.ireturn, 1) := by decide +kernel
theorem dX9_count_171 : decode cX9_count 171 = .ok (.aload_n 0, 1) := by decide +kernel
theorem dX9_count_172 : decode cX9_count 172 = .ok (.getfield 41, 3) := by decide +kernel
theorem dX9_count_175 : decode cX9_count 175 = .ok (.ireturn, 1) := by decide +kernel
theorem dX9_count_176 : decode cX9_count 176 = .ok (.aload_n 0, 1) := by decide +kernel
theorem dX9_count_177 : decode cX9_count 177 = .ok (.getfield 89, 3) := by decide +kernel
theorem dX9_count_180 : decode cX9_count 180 = .ok (.ireturn, 1) := by decide +kernel
theorem dX9_count_181 : decode cX9_count 181 = .ok (.iconst (-1), 1) := by decide +kernel
theorem dX9_count_182 : decode cX9_count 182 = .ok (.ireturn, 1) := by decide +kernel
theorem dX9_longest_0 : decode cX9_longest 0 = .ok (.iconst 0, 1) := by decide +kernel
theorem dX9_longest_1 : decode cX9_longest 1 = .ok (.istore_n 2, 1) := by decide +kernel
theorem dX9_longest_2 : decode cX9_longest 2 = .ok (.iconst 0, 1) := by decide +kernel
theorem dX9_longest_3 : decode cX9_longest 3 = .ok (.istore_n 3, 1) := by decide +kernel
theorem dX9_longest_4 : decode cX9_longest 4 = .ok (.iconst 0, 1) := by decide +kernel
theorem dX9_longest_5 : decode cX9_longest 5 = .ok (.istore 4, 2) := by decide +kernel
theorem dX9_longest_7 : decode cX9_longest 7 = .ok (.iload 4, 2) := by decide +kernel
theorem dX9_longest_9 : decode cX9_longest 9 = .ok (.aload_n 0, 1) := by decide +kernel
theorem dX9_longest_10 : decode cX9_longest 10 = .ok (.getfield 7, 3) := by decide +kernel
theorem dX9_longest_13 : decode cX9_longest 13 = .ok (.bipush 12, 2) := by decide +kernel
theorem dX9_longest_15 : decode cX9_longest 15 = .ok (.iload_n 1, 1) := by decide +kernel
theorem dX9_longest_16 : decode cX9_longest 16 = .ok (.iadd, 1) := by decide +kernel
theorem dX9_longest_17 : decode cX9_longest 17 = .ok (.iaload, 1) := by decide +kernel
theorem dX9_longest_18 : decode cX9_longest 18 = .ok (.if_icmp .ge 62, 3) := by decide +kernel
theorem dX9_longest_21 : decode cX9_longest 21 = .ok (.aload_n 0, 1) := by decide +kernel
theorem dX9_longest_22 : decode cX9_longest 22 = .ok (.iload_n 1, 1) := by decide +kernel
theorem dX9_longest_23 : decode cX9_longest 23 = .ok (.iload 4, 2) := by decide +kernel
theorem dX9_longest_25 : decode cX9_longest 25 = .ok (.invokevirtual 37, 3) := by decide +kernel
theorem dX9_longest_28 : decode cX9_longest 28 = .ok (.iconst 1, 1) := by decide +kernel
theorem dX9_longest_29 : decode cX9_longest 29 = .ok (.if_icmp .ne 9, 3) := by decide +kernel
theorem dX9_longest_32 : decode cX9_longest 32 = .ok (.iload_n 3, 1) := by decide +kernel
theorem dX9_longest_33 : decode cX9_longest 33 = .ok (.iconst 1, 1) := by decide +kernel
theorem dX9_longest_34 : decode cX9_longest 34 = .ok (.iadd, 1) := by decide +kernel
theorem dX9_longest_35 : decode cX9_longest 35 = .ok (.goto 4, 3) := by decide +kernel
theorem dX9_longest_38 : decode cX9_longest 38 = .ok (.iconst 0, 1) := by decide +kernel
theorem dX9_longest_39 : decode cX9_longest 39 = .ok (.istore_n 3, 1) := by decide +kernel
theorem dX9_longest_40 : decode cX9_longest 40 = .ok (.iload_n 3, 1) := by decide +kernel
theorem dX9_longest_41 : decode cX9_longest 41 = .ok (.ifCond .ne 7, 3) := by decide +kernel
theorem dX9_longest_44 : decode cX9_longest 44 = .ok (.iconst 0, 1) := by decide +kernel
theorem dX9_longest_45 : decode cX9_longest 45 = .ok (.goto 14, 3) := by decide +kernel
theorem dX9_longest_48 : decode cX9_longest 48 = .ok (.bipush 100, 2) := by decide +kernel
theorem dX9_longest_50 : decode cX9_longest 50 = .ok (.iload_n 3, 1) := by decide +kernel
theorem dX9_longest_51 : decode cX9_longest 51 = .ok (.imul, 1) := by decide +kernel
theorem dX9_longest_52 : decode cX9_longest 52 = .ok (.iload 4, 2) := by decide +kernel
theorem dX9_longest_54 : decode cX9_longest 54 = .ok (.iconst 1, 1) := by decide +kernel
theorem dX9_longest_55 : decode cX9_longest 55 = .ok (.iadd, 1) := by decide +kernel
theorem dX9_longest_56 : decode cX9_longest 56 = .ok (.iload_n 3, 1) := by decide +kernel
theorem dX9_longest_57 : decode cX9_longest 57 = .ok (.isub, 1) := by decide +kernel
theorem dX9_longest_58 : decode cX9_longest 58 = .ok (.isub, 1) := by decide +kernel
theorem dX9_longest_59 : decode cX9_longest 59 = .ok (.istore 5, 2) := by decide +kernel
theorem dX9_longest_61 : decode cX9_longest 61 = .ok (.iload 5, 2) := by decide +kernel
theorem dX9_longest_63 : decode cX9_longest 63 = .ok (.iload_n 2, 1) := by decide +kernel
theorem dX9_longest_64 : decode cX9_longest 64 = .ok (.if_icmp .le 8, 3) := by decide +kernel
theorem dX9_longest_67 : decode cX9_longest 67 = .ok (.iload 5, 2) := by decide +kernel
theorem dX9_longest_69 : decode cX9_longest 69 = .ok (.goto 4, 3) := by decide +kernel
theorem dX9_longest_72 : decode cX9_longest 72 = .ok (.iload_n 2, 1) := by decide +kernel
theorem dX9_longest_73 : decode cX9_longest 73 = .ok (.istore_n 2, 1) := by decide +kernel
theorem dX9_longest_74 : decode cX9_longest 74 = .ok (.iinc 4 1, 3) := by decide +kernel
theorem dX9_longest_77 : decode cX9_longest 77 = .ok (.goto (-70), 3) := by decide +kernel
theorem dX9_longest_80 : decode cX9_longest 80 = .ok (.iload_n 2, 1) := by decide +kernel
theorem dX9_longest_81 : decode cX9_longest 81 = .ok (.ireturn, 1) := by decide +kernel
theorem dX9_field_0 : decode cX9_field 0 = .ok (.iload_n 1, 1) := by decide +kernel
theorem dX9_field_1 : decode cX9_field 1 = .ok (.invokestatic 33, 3) := by decide +kernel
theorem dX9_field_4 : decode cX9_field 4 = .ok (.ifCond .eq 13, 3) := by decide +kernel
theorem dX9_field_7 : decode cX9_field 7 = .ok (.iload_n 2, 1) := by decide +kernel
theorem dX9_field_8 : decode cX9_field 8 = .ok (.iconst 0, 1) := by decide +kernel
theorem dX9_field_9 : decode cX9_field 9 = .ok (.bipush 10, 2) := by decide +kernel
theorem dX9_field_11 : decode cX9_field 11 = .ok (.invokestatic 29, 3) := by decide +kernel
theorem dX9_field_14 : decode cX9_field 14 = .ok (.ifCond .ne 5, 3) := by decide +kernel
theorem dX9_field_17 : decode cX9_field 17 = .ok (.iconst (-1), 1) := by decide +kernel
theorem dX9_field_18 : decode cX9_field 18 = .ok (.ireturn, 1) := by decide +kernel
theorem dX9_field_19 : decode cX9_field 19 = .ok (.aload_n 0, 1) := by decide +kernel
theorem dX9_field_20 : decode cX9_field 20 = .ok (.iload_n 1, 1) := by decide +kernel
theorem dX9_field_21 : decode cX9_field 21 = .ok (.invokevirtual 117, 3) := by decide +kernel
theorem dX9_field_24 : decode cX9_field 24 = .ok (.istore_n 3, 1) := by decide +kernel
theorem dX9_field_25 : decode cX9_field 25 = .ok (.iload_n 3, 1) := by decide +kernel
theorem dX9_field_26 : decode cX9_field 26 = .ok (.bipush 99, 2) := by decide +kernel
theorem dX9_field_28 : decode cX9_field 28 = .ok (.iadd, 1) := by decide +kernel
theorem dX9_field_29 : decode cX9_field 29 = .ok (.bipush 100, 2) := by decide +kernel
theorem dX9_field_31 : decode cX9_field 31 = .ok (.idiv, 1) := by decide +kernel
theorem dX9_field_32 : decode cX9_field 32 = .ok (.istore 4, 2) := by decide +kernel
theorem dX9_field_34 : decode cX9_field 34 = .ok (.iload_n 2, 1) := by decide +kernel
theorem dX9_field_35 : decode cX9_field 35 = .ok (.tableswitch 92 0 7 #[45, 55, 55, 55, 55, 64, 67, 85], 45) := by decide +kernel
theorem dX9_field_80 : decode cX9_field 80 = .ok (.aload_n 0, 1) := by decide +kernel
theorem dX9_field_81 : decode cX9_field 81 = .ok (.getfield 7, 3) := by decide +kernel
theorem dX9_field_84 : decode cX9_field 84 = .ok (.bipush 12, 2) := by decide +kernel
theorem dX9_field_86 : decode cX9_field 86 = .ok (.iload_n 1, 1) := by decide +kernel
theorem dX9_field_87 : decode cX9_field 87 = .ok (.iadd, 1) := by decide +kernel
theorem dX9_field_88 : decode cX9_field 88 = .ok (.iaload, 1) := by decide +kernel
theorem dX9_field_89 : decode cX9_field 89 = .ok (.ireturn, 1) := by decide +kernel
theorem dX9_field_90 : decode cX9_field 90 = .ok (.aload_n 0, 1) := by decide +kernel
theorem dX9_field_91 : decode cX9_field 91 = .ok (.iload_n 1, 1) := by decide +kernel
theorem dX9_field_92 : decode cX9_field 92 = .ok (.iload_n 2, 1) := by decide +kernel
theorem dX9_field_93 : decode cX9_field 93 = .ok (.iconst 1, 1) := by decide +kernel
theorem dX9_field_94 : decode cX9_field 94 = .ok (.isub, 1) := by decide +kernel
theorem dX9_field_95 : decode cX9_field 95 = .ok (.invokevirtual 45, 3) := by decide +kernel
theorem dX9_field_98 : decode cX9_field 98 = .ok (.ireturn, 1) := by decide +kernel
theorem dX9_field_99 : decode cX9_field 99 = .ok (.iload 4, 2) := by decide +kernel
theorem dX9_field_101 : decode cX9_field 101 = .ok (.ireturn, 1) := by decide +kernel
theorem dX9_field_102 : decode cX9_field 102 = .ok (.iload 4, 2) := by decide +kernel
theorem dX9_field_104 : decode cX9_field 104 = .ok (.ifCond .ne 8, 3) := by decide +kernel
theorem dX9_field_107 : decode cX9_field 107 = .ok (.bipush (-9), 2) := by decide +kernel
theorem dX9_field_109 : decode cX9_field 109 = .ok (.goto 10, 3) := by decide +kernel
theorem dX9_field_112 : decode cX9_field 112 = .ok (.bipush 100, 2) := by decide +kernel
theorem dX9_field_114 : decode cX9_field 114 = .ok (.iload 4, 2) := by decide +kernel
theorem dX9_field_116 : decode cX9_field 116 = .ok (.imul, 1) := by decide +kernel
theorem dX9_field_117 : decode cX9_field 117 = .ok (.iload_n 3, 1) := by decide +kernel
theorem dX9_field_118 : decode cX9_field 118 = .ok (.isub, 1) := by decide +kernel
theorem dX9_field_119 : decode cX9_field 119 = .ok (.ireturn, 1) := by decide +kernel
theorem dX9_field_120 : decode cX9_field 120 = .ok (.aload_n 0, 1) := by decide +kernel
theorem dX9_field_121 : decode cX9_field 121 = .ok (.iload_n 1, 1) := by decide +kernel
theorem dX9_field_122 : decode cX9_field 122 = .ok (.iconst 0, 1) := by decide +kernel
theorem dX9_field_123 : decode cX9_field 123 = .ok (.invokevirtual 64, 3) := by decide +kernel
theorem dX9_field_126 : decode cX9_field 126 = .ok (.ireturn, 1) := by decide +kernel
theorem dX9_field_127 : decode cX9_field 127 = .ok (.aload_n 0, 1) := by decide +kernel
theorem dX9_field_128 : decode cX9_field 128 = .ok (.iload_n 1, 1) := by decide +kernel
theorem dX9_field_129 : decode cX9_field 129 = .ok (.iconst 0, 1) := by decide +kernel
theorem dX9_field_130 : decode cX9_field 130 = .ok (.invokevirtual 64, 3) := by decide +kernel
theorem dX9_field_133 : decode cX9_field 133 = .ok (.iconst 1, 1) := by decide +kernel
theorem dX9_field_134 : decode cX9_field 134 = .ok (.if_icmp .ne 15, 3) := by decide +kernel
theorem dX9_field_137 : decode cX9_field 137 = .ok (.aload_n 0, 1) := by decide +kernel
theorem dX9_field_138 : decode cX9_field 138 = .ok (.iload_n 1, 1) := by decide +kernel
theorem dX9_field_139 : decode cX9_field 139 = .ok (.iload_n 2, 1) := by decide +kernel
theorem dX9_field_140 : decode cX9_field 140 = .ok (.bipush 7, 2) := by decide +kernel
theorem dX9_field_142 : decode cX9_field 142 = .ok (.isub, 1) := by decide +kernel
theorem dX9_field_143 : decode cX9_field 143 = .ok (.invokevirtual 64, 3) := by decide +kernel
theorem dX9_field_146 : decode cX9_field 146 = .ok (.goto 5, 3) := by decide +kernel
theorem dX9_field_149 : decode cX9_field 149 = .ok (.bipush (-9), 2) := by decide +kernel
theorem dX9_field_151 : decode cX9_field 151 = .ok (.ireturn, 1) := by decide +kernel
theorem dX9_chain_0 : decode cX9_chain 0 = .ok (.aload_n 0, 1) := by decide +kernel
theorem dX9_chain_1 : decode cX9_chain 1 = .ok (.iload_n 1, 1) := by decide +kernel
theorem dX9_chain_2 : decode cX9_chain 2 = .ok (.iload_n 2, 1) := by decide +kernel
theorem dX9_chain_3 : decode cX9_chain 3 = .ok (.invokevirtual 51, 3) := by decide +kernel
theorem dX9_chain_6 : decode cX9_chain 6 = .ok (.ifCond .eq 12, 3) := by decide +kernel
theorem dX9_chain_9 : decode cX9_chain 9 = .ok (.iload_n 3, 1) := by decide +kernel
theorem dX9_chain_10 : decode cX9_chain 10 = .ok (.iconst 0, 1) := by decide +kernel
theorem dX9_chain_11 : decode cX9_chain 11 = .ok (.iconst 2, 1) := by decide +kernel
theorem dX9_chain_12 : decode cX9_chain 12 = .ok (.invokestatic 29, 3) := by decide +kernel
theorem dX9_chain_15 : decode cX9_chain 15 = .ok (.ifCond .ne 5, 3) := by decide +kernel
theorem dX9_chain_18 : decode cX9_chain 18 = .ok (.iconst (-1), 1) := by decide +kernel
theorem dX9_chain_19 : decode cX9_chain 19 = .ok (.ireturn, 1) := by decide +kernel
theorem dX9_chain_20 : decode cX9_chain 20 = .ok (.iload_n 3, 1) := by decide +kernel
theorem dX9_chain_21 : decode cX9_chain 21 = .ok (.ifCond .ne 12, 3) := by decide +kernel
theorem dX9_chain_24 : decode cX9_chain 24 = .ok (.aload_n 0, 1) := by decide +kernel
theorem dX9_chain_25 : decode cX9_chain 25 = .ok (.iload_n 1, 1) := by decide +kernel
theorem dX9_chain_26 : decode cX9_chain 26 = .ok (.iload_n 2, 1) := by decide +kernel
theorem dX9_chain_27 : decode cX9_chain 27 = .ok (.invokevirtual 37, 3) := by decide +kernel
theorem dX9_chain_30 : decode cX9_chain 30 = .ok (.goto 23, 3) := by decide +kernel
theorem dX9_chain_33 : decode cX9_chain 33 = .ok (.iload_n 3, 1) := by decide +kernel
theorem dX9_chain_34 : decode cX9_chain 34 = .ok (.iconst 1, 1) := by decide +kernel
theorem dX9_chain_35 : decode cX9_chain 35 = .ok (.if_icmp .ne 12, 3) := by decide +kernel
theorem dX9_chain_38 : decode cX9_chain 38 = .ok (.aload_n 0, 1) := by decide +kernel
theorem dX9_chain_39 : decode cX9_chain 39 = .ok (.iload_n 1, 1) := by decide +kernel
theorem dX9_chain_40 : decode cX9_chain 40 = .ok (.iload_n 2, 1) := by decide +kernel
theorem dX9_chain_41 : decode cX9_chain 41 = .ok (.invokevirtual 48, 3) := by decide +kernel
theorem dX9_chain_44 : decode cX9_chain 44 = .ok (.goto 9, 3) := by decide +kernel
theorem dX9_chain_47 : decode cX9_chain 47 = .ok (.aload_n 0, 1) := by decide +kernel
theorem dX9_chain_48 : decode cX9_chain 48 = .ok (.iload_n 1, 1) := by decide +kernel
theorem dX9_chain_49 : decode cX9_chain 49 = .ok (.iload_n 2, 1) := by decide +kernel
theorem dX9_chain_50 : decode cX9_chain 50 = .ok (.invokevirtual 75, 3) := by decide +kernel
theorem dX9_chain_53 : decode cX9_chain 53 = .ok (.ireturn, 1) := by decide +kernel
theorem dX9_takes_0 : decode cX9_takes 0 = .ok (.aload_n 0, 1) := by decide +kernel
theorem dX9_takes_1 : decode cX9_takes 1 = .ok (.iload_n 1, 1) := by decide +kernel
theorem dX9_takes_2 : decode cX9_takes 2 = .ok (.iload_n 2, 1) := by decide +kernel
theorem dX9_takes_3 : decode cX9_takes 3 = .ok (.invokevirtual 48, 3) := by decide +kernel
theorem dX9_takes_6 : decode cX9_takes 6 = .ok (.istore_n 3, 1) := by decide +kernel
theorem dX9_takes_7 : decode cX9_takes 7 = .ok (.aload_n 0, 1) := by decide +kernel
theorem dX9_takes_8 : decode cX9_takes 8 = .ok (.iload_n 1, 1) := by decide +kernel
theorem dX9_takes_9 : decode cX9_takes 9 = .ok (.iload_n 2, 1) := by decide +kernel
theorem dX9_takes_10 : decode cX9_takes 10 = .ok (.invokevirtual 37, 3) := by decide +kernel
theorem dX9_takes_13 : decode cX9_takes 13 = .ok (.ifCond .ne 12, 3) := by decide +kernel
theorem dX9_takes_16 : decode cX9_takes 16 = .ok (.iload_n 3, 1) := by decide +kernel
theorem dX9_takes_17 : decode cX9_takes 17 = .ok (.iconst 2, 1) := by decide +kernel
theorem dX9_takes_18 : decode cX9_takes 18 = .ok (.if_icmp .lt 7, 3) := by decide +kernel
theorem dX9_takes_21 : decode cX9_takes 21 = .ok (.iload_n 3, 1) := by decide +kernel
theorem dX9_takes_22 : decode cX9_takes 22 = .ok (.goto 4, 3) := by decide +kernel
theorem dX9_takes_25 : decode cX9_takes 25 = .ok (.iconst 0, 1) := by decide +kernel
theorem dX9_takes_26 : decode cX9_takes 26 = .ok (.ireturn, 1) := by decide +kernel
theorem dX9_workOf_0 : decode cX9_workOf 0 = .ok (.iconst 0, 1) := by decide +kernel
theorem dX9_workOf_1 : decode cX9_workOf 1 = .ok (.istore_n 2, 1) := by decide +kernel
theorem dX9_workOf_2 : decode cX9_workOf 2 = .ok (.iconst 0, 1) := by decide +kernel
theorem dX9_workOf_3 : decode cX9_workOf 3 = .ok (.istore_n 3, 1) := by decide +kernel
theorem dX9_workOf_4 : decode cX9_workOf 4 = .ok (.iload_n 3, 1) := by decide +kernel
theorem dX9_workOf_5 : decode cX9_workOf 5 = .ok (.aload_n 0, 1) := by decide +kernel
theorem dX9_workOf_6 : decode cX9_workOf 6 = .ok (.getfield 7, 3) := by decide +kernel
theorem dX9_workOf_9 : decode cX9_workOf 9 = .ok (.bipush 12, 2) := by decide +kernel
theorem dX9_workOf_11 : decode cX9_workOf 11 = .ok (.iload_n 1, 1) := by decide +kernel
theorem dX9_workOf_12 : decode cX9_workOf 12 = .ok (.iadd, 1) := by decide +kernel
theorem dX9_workOf_13 : decode cX9_workOf 13 = .ok (.iaload, 1) := by decide +kernel
theorem dX9_workOf_14 : decode cX9_workOf 14 = .ok (.if_icmp .ge 18, 3) := by decide +kernel
theorem dX9_workOf_17 : decode cX9_workOf 17 = .ok (.iload_n 2, 1) := by decide +kernel
theorem dX9_workOf_18 : decode cX9_workOf 18 = .ok (.aload_n 0, 1) := by decide +kernel
theorem dX9_workOf_19 : decode cX9_workOf 19 = .ok (.iload_n 1, 1) := by decide +kernel
theorem dX9_workOf_20 : decode cX9_workOf 20 = .ok (.iload_n 3, 1) := by decide +kernel
theorem dX9_workOf_21 : decode cX9_workOf 21 = .ok (.invokevirtual 120, 3) := by decide +kernel
theorem dX9_workOf_24 : decode cX9_workOf 24 = .ok (.iadd, 1) := by decide +kernel
theorem dX9_workOf_25 : decode cX9_workOf 25 = .ok (.istore_n 2, 1) := by decide +kernel
theorem dX9_workOf_26 : decode cX9_workOf 26 = .ok (.iinc 3 1, 3) := by decide +kernel
theorem dX9_workOf_29 : decode cX9_workOf 29 = .ok (.goto (-25), 3) := by decide +kernel
theorem dX9_workOf_32 : decode cX9_workOf 32 = .ok (.iload_n 2, 1) := by decide +kernel
theorem dX9_workOf_33 : decode cX9_workOf 33 = .ok (.ireturn, 1) := by decide +kernel
theorem dX9_toLay_0 : decode cX9_toLay 0 = .ok (.iload_n 1, 1) := by decide +kernel
theorem dX9_toLay_1 : decode cX9_toLay 1 = .ok (.invokestatic 33, 3) := by decide +kernel
theorem dX9_toLay_4 : decode cX9_toLay 4 = .ok (.ifCond .eq 12, 3) := by decide +kernel
theorem dX9_toLay_7 : decode cX9_toLay 7 = .ok (.iload_n 2, 1) := by decide +kernel
theorem dX9_toLay_8 : decode cX9_toLay 8 = .ok (.iconst 0, 1) := by decide +kernel
theorem dX9_toLay_9 : decode cX9_toLay 9 = .ok (.iconst 1, 1) := by decide +kernel
theorem dX9_toLay_10 : decode cX9_toLay 10 = .ok (.invokestatic 29, 3) := by decide +kernel
theorem dX9_toLay_13 : decode cX9_toLay 13 = .ok (.ifCond .ne 5, 3) := by decide +kernel
theorem dX9_toLay_16 : decode cX9_toLay 16 = .ok (.iconst (-1), 1) := by decide +kernel
theorem dX9_toLay_17 : decode cX9_toLay 17 = .ok (.ireturn, 1) := by decide +kernel
theorem dX9_toLay_18 : decode cX9_toLay 18 = .ok (.iconst 0, 1) := by decide +kernel
theorem dX9_toLay_19 : decode cX9_toLay 19 = .ok (.istore_n 3, 1) := by decide +kernel
theorem dX9_toLay_20 : decode cX9_toLay 20 = .ok (.iconst 0, 1) := by decide +kernel
theorem dX9_toLay_21 : decode cX9_toLay 21 = .ok (.istore 4, 2) := by decide +kernel
theorem dX9_toLay_23 : decode cX9_toLay 23 = .ok (.iload 4, 2) := by decide +kernel
theorem dX9_toLay_25 : decode cX9_toLay 25 = .ok (.aload_n 0, 1) := by decide +kernel
theorem dX9_toLay_26 : decode cX9_toLay 26 = .ok (.getfield 7, 3) := by decide +kernel
theorem dX9_toLay_29 : decode cX9_toLay 29 = .ok (.bipush 12, 2) := by decide +kernel
theorem dX9_toLay_31 : decode cX9_toLay 31 = .ok (.iload_n 1, 1) := by decide +kernel
theorem dX9_toLay_32 : decode cX9_toLay 32 = .ok (.iadd, 1) := by decide +kernel
theorem dX9_toLay_33 : decode cX9_toLay 33 = .ok (.iaload, 1) := by decide +kernel
theorem dX9_toLay_34 : decode cX9_toLay 34 = .ok (.if_icmp .ge 27, 3) := by decide +kernel
theorem dX9_toLay_37 : decode cX9_toLay 37 = .ok (.iload_n 3, 1) := by decide +kernel
theorem dX9_toLay_38 : decode cX9_toLay 38 = .ok (.aload_n 0, 1) := by decide +kernel
theorem dX9_toLay_39 : decode cX9_toLay 39 = .ok (.iload_n 1, 1) := by decide +kernel
theorem dX9_toLay_40 : decode cX9_toLay 40 = .ok (.iload 4, 2) := by decide +kernel
theorem dX9_toLay_42 : decode cX9_toLay 42 = .ok (.invokevirtual 120, 3) := by decide +kernel
theorem dX9_toLay_45 : decode cX9_toLay 45 = .ok (.ifCond .le 7, 3) := by decide +kernel
theorem dX9_toLay_48 : decode cX9_toLay 48 = .ok (.iconst 1, 1) := by decide +kernel
theorem dX9_toLay_49 : decode cX9_toLay 49 = .ok (.goto 4, 3) := by decide +kernel
theorem dX9_toLay_52 : decode cX9_toLay 52 = .ok (.iconst 0, 1) := by decide +kernel
theorem dX9_toLay_53 : decode cX9_toLay 53 = .ok (.iadd, 1) := by decide +kernel
theorem dX9_toLay_54 : decode cX9_toLay 54 = .ok (.istore_n 3, 1) := by decide +kernel
theorem dX9_toLay_55 : decode cX9_toLay 55 = .ok (.iinc 4 1, 3) := by decide +kernel
theorem dX9_toLay_58 : decode cX9_toLay 58 = .ok (.goto (-35), 3) := by decide +kernel
theorem dX9_toLay_61 : decode cX9_toLay 61 = .ok (.iload_n 2, 1) := by decide +kernel
theorem dX9_toLay_62 : decode cX9_toLay 62 = .ok (.ifCond .ne 11, 3) := by decide +kernel
theorem dX9_toLay_65 : decode cX9_toLay 65 = .ok (.aload_n 0, 1) := by decide +kernel
theorem dX9_toLay_66 : decode cX9_toLay 66 = .ok (.iload_n 1, 1) := by decide +kernel
theorem dX9_toLay_67 : decode cX9_toLay 67 = .ok (.invokevirtual 123, 3) := by decide +kernel
theorem dX9_toLay_70 : decode cX9_toLay 70 = .ok (.goto 6, 3) := by decide +kernel
theorem dX9_toLay_73 : decode cX9_toLay 73 = .ok (.iconst 2, 1) := by decide +kernel
theorem dX9_toLay_74 : decode cX9_toLay 74 = .ok (.iload_n 3, 1) := by decide +kernel
theorem dX9_toLay_75 : decode cX9_toLay 75 = .ok (.imul, 1) := by decide +kernel
theorem dX9_toLay_76 : decode cX9_toLay 76 = .ok (.ireturn, 1) := by decide +kernel
theorem dX9_stakesIn_0 : decode cX9_stakesIn 0 = .ok (.iload_n 1, 1) := by decide +kernel
theorem dX9_stakesIn_1 : decode cX9_stakesIn 1 = .ok (.invokestatic 33, 3) := by decide +kernel
theorem dX9_stakesIn_4 : decode cX9_stakesIn 4 = .ok (.ifCond .ne 5, 3) := by decide +kernel
theorem dX9_stakesIn_7 : decode cX9_stakesIn 7 = .ok (.iconst (-1), 1) := by decide +kernel
theorem dX9_stakesIn_8 : decode cX9_stakesIn 8 = .ok (.ireturn, 1) := by decide +kernel
theorem dX9_stakesIn_9 : decode cX9_stakesIn 9 = .ok (.iconst 0, 1) := by decide +kernel
theorem dX9_stakesIn_10 : decode cX9_stakesIn 10 = .ok (.istore_n 2, 1) := by decide +kernel
theorem dX9_stakesIn_11 : decode cX9_stakesIn 11 = .ok (.iconst 0, 1) := by decide +kernel
theorem dX9_stakesIn_12 : decode cX9_stakesIn 12 = .ok (.istore_n 3, 1) := by decide +kernel
theorem dX9_stakesIn_13 : decode cX9_stakesIn 13 = .ok (.iload_n 3, 1) := by decide +kernel
theorem dX9_stakesIn_14 : decode cX9_stakesIn 14 = .ok (.aload_n 0, 1) := by decide +kernel
theorem dX9_stakesIn_15 : decode cX9_stakesIn 15 = .ok (.getfield 7, 3) := by decide +kernel
theorem dX9_stakesIn_18 : decode cX9_stakesIn 18 = .ok (.bipush 12, 2) := by decide +kernel
theorem dX9_stakesIn_20 : decode cX9_stakesIn 20 = .ok (.iload_n 1, 1) := by decide +kernel
theorem dX9_stakesIn_21 : decode cX9_stakesIn 21 = .ok (.iadd, 1) := by decide +kernel
theorem dX9_stakesIn_22 : decode cX9_stakesIn 22 = .ok (.iaload, 1) := by decide +kernel
theorem dX9_stakesIn_23 : decode cX9_stakesIn 23 = .ok (.if_icmp .ge 43, 3) := by decide +kernel
theorem dX9_stakesIn_26 : decode cX9_stakesIn 26 = .ok (.aload_n 0, 1) := by decide +kernel
theorem dX9_stakesIn_27 : decode cX9_stakesIn 27 = .ok (.iload_n 1, 1) := by decide +kernel
theorem dX9_stakesIn_28 : decode cX9_stakesIn 28 = .ok (.iload_n 3, 1) := by decide +kernel
theorem dX9_stakesIn_29 : decode cX9_stakesIn 29 = .ok (.invokevirtual 48, 3) := by decide +kernel
theorem dX9_stakesIn_32 : decode cX9_stakesIn 32 = .ok (.istore 4, 2) := by decide +kernel
theorem dX9_stakesIn_34 : decode cX9_stakesIn 34 = .ok (.aload_n 0, 1) := by decide +kernel
theorem dX9_stakesIn_35 : decode cX9_stakesIn 35 = .ok (.iload_n 1, 1) := by decide +kernel
theorem dX9_stakesIn_36 : decode cX9_stakesIn 36 = .ok (.iload_n 3, 1) := by decide +kernel
theorem dX9_stakesIn_37 : decode cX9_stakesIn 37 = .ok (.invokevirtual 37, 3) := by decide +kernel
theorem dX9_stakesIn_40 : decode cX9_stakesIn 40 = .ok (.ifCond .ne 20, 3) := by decide +kernel
theorem dX9_stakesIn_43 : decode cX9_stakesIn 43 = .ok (.iload 4, 2) := by decide +kernel
theorem dX9_stakesIn_45 : decode cX9_stakesIn 45 = .ok (.iconst 3, 1) := by decide +kernel
theorem dX9_stakesIn_46 : decode cX9_stakesIn 46 = .ok (.if_icmp .lt 14, 3) := by decide +kernel
theorem dX9_stakesIn_49 : decode cX9_stakesIn 49 = .ok (.iload_n 2, 1) := by decide +kernel
theorem dX9_stakesIn_50 : decode cX9_stakesIn 50 = .ok (.iload 4, 2) := by decide +kernel
theorem dX9_stakesIn_52 : decode cX9_stakesIn 52 = .ok (.iadd, 1) := by decide +kernel
theorem dX9_stakesIn_53 : decode cX9_stakesIn 53 = .ok (.istore_n 2, 1) := by decide +kernel
theorem dX9_stakesIn_54 : decode cX9_stakesIn 54 = .ok (.iinc 4 (-2), 3) := by decide +kernel
theorem dX9_stakesIn_57 : decode cX9_stakesIn 57 = .ok (.goto (-23), 3) := by decide +kernel
theorem dX9_stakesIn_60 : decode cX9_stakesIn 60 = .ok (.iinc 3 1, 3) := by decide +kernel
theorem dX9_stakesIn_63 : decode cX9_stakesIn 63 = .ok (.goto (-50), 3) := by decide +kernel
theorem dX9_stakesIn_66 : decode cX9_stakesIn 66 = .ok (.iload_n 2, 1) := by decide +kernel
theorem dX9_stakesIn_67 : decode cX9_stakesIn 67 = .ok (.ireturn, 1) := by decide +kernel
theorem dX9_doneIn_0 : decode cX9_doneIn 0 = .ok (.iload_n 1, 1) := by decide +kernel
theorem dX9_doneIn_1 : decode cX9_doneIn 1 = .ok (.invokestatic 33, 3) := by decide +kernel
theorem dX9_doneIn_4 : decode cX9_doneIn 4 = .ok (.ifCond .ne 5, 3) := by decide +kernel
theorem dX9_doneIn_7 : decode cX9_doneIn 7 = .ok (.iconst (-1), 1) := by decide +kernel
theorem dX9_doneIn_8 : decode cX9_doneIn 8 = .ok (.ireturn, 1) := by decide +kernel
theorem dX9_doneIn_9 : decode cX9_doneIn 9 = .ok (.iconst 0, 1) := by decide +kernel
theorem dX9_doneIn_10 : decode cX9_doneIn 10 = .ok (.istore_n 2, 1) := by decide +kernel
theorem dX9_doneIn_11 : decode cX9_doneIn 11 = .ok (.aload_n 0, 1) := by decide +kernel
theorem dX9_doneIn_12 : decode cX9_doneIn 12 = .ok (.aload_n 0, 1) := by decide +kernel
theorem dX9_doneIn_13 : decode cX9_doneIn 13 = .ok (.getfield 7, 3) := by decide +kernel
theorem dX9_doneIn_16 : decode cX9_doneIn 16 = .ok (.iconst 0, 1) := by decide +kernel
theorem dX9_doneIn_17 : decode cX9_doneIn 17 = .ok (.iaload, 1) := by decide +kernel
theorem dX9_doneIn_18 : decode cX9_doneIn 18 = .ok (.invokevirtual 55, 3) := by decide +kernel
theorem dX9_doneIn_21 : decode cX9_doneIn 21 = .ok (.ifCond .eq 7, 3) := by decide +kernel
theorem dX9_doneIn_24 : decode cX9_doneIn 24 = .ok (.iconst 0, 1) := by decide +kernel
theorem dX9_doneIn_25 : decode cX9_doneIn 25 = .ok (.goto 9, 3) := by decide +kernel
theorem dX9_doneIn_28 : decode cX9_doneIn 28 = .ok (.aload_n 0, 1) := by decide +kernel
theorem dX9_doneIn_29 : decode cX9_doneIn 29 = .ok (.getfield 7, 3) := by decide +kernel
theorem dX9_doneIn_32 : decode cX9_doneIn 32 = .ok (.iconst 1, 1) := by decide +kernel
theorem dX9_doneIn_33 : decode cX9_doneIn 33 = .ok (.iaload, 1) := by decide +kernel
theorem dX9_doneIn_34 : decode cX9_doneIn 34 = .ok (.istore_n 3, 1) := by decide +kernel
theorem dX9_doneIn_35 : decode cX9_doneIn 35 = .ok (.iconst 0, 1) := by decide +kernel
theorem dX9_doneIn_36 : decode cX9_doneIn 36 = .ok (.istore 4, 2) := by decide +kernel
theorem dX9_doneIn_38 : decode cX9_doneIn 38 = .ok (.iload 4, 2) := by decide +kernel
theorem dX9_doneIn_40 : decode cX9_doneIn 40 = .ok (.aload_n 0, 1) := by decide +kernel
theorem dX9_doneIn_41 : decode cX9_doneIn 41 = .ok (.getfield 7, 3) := by decide +kernel
theorem dX9_doneIn_44 : decode cX9_doneIn 44 = .ok (.bipush 12, 2) := by decide +kernel
theorem dX9_doneIn_46 : decode cX9_doneIn 46 = .ok (.iload_n 1, 1) := by decide +kernel
theorem dX9_doneIn_47 : decode cX9_doneIn 47 = .ok (.iadd, 1) := by decide +kernel
theorem dX9_doneIn_48 : decode cX9_doneIn 48 = .ok (.iaload, 1) := by decide +kernel
theorem dX9_doneIn_49 : decode cX9_doneIn 49 = .ok (.if_icmp .ge 84, 3) := by decide +kernel
theorem dX9_doneIn_52 : decode cX9_doneIn 52 = .ok (.aload_n 0, 1) := by decide +kernel
theorem dX9_doneIn_53 : decode cX9_doneIn 53 = .ok (.iload_n 1, 1) := by decide +kernel
theorem dX9_doneIn_54 : decode cX9_doneIn 54 = .ok (.iload 4, 2) := by decide +kernel
theorem dX9_doneIn_56 : decode cX9_doneIn 56 = .ok (.invokevirtual 120, 3) := by decide +kernel
theorem dX9_doneIn_59 : decode cX9_doneIn 59 = .ok (.istore 5, 2) := by decide +kernel
theorem dX9_doneIn_61 : decode cX9_doneIn 61 = .ok (.iload 5, 2) := by decide +kernel
theorem dX9_doneIn_63 : decode cX9_doneIn 63 = .ok (.aload_n 0, 1) := by decide +kernel
theorem dX9_doneIn_64 : decode cX9_doneIn 64 = .ok (.getfield 7, 3) := by decide +kernel
theorem dX9_doneIn_67 : decode cX9_doneIn 67 = .ok (.bipush 11, 2) := by decide +kernel
theorem dX9_doneIn_69 : decode cX9_doneIn 69 = .ok (.iaload, 1) := by decide +kernel
theorem dX9_doneIn_70 : decode cX9_doneIn 70 = .ok (.if_icmp .le 6, 3) := by decide +kernel
theorem dX9_doneIn_73 : decode cX9_doneIn 73 = .ok (.bipush (-9), 2) := by decide +kernel
theorem dX9_doneIn_75 : decode cX9_doneIn 75 = .ok (.ireturn, 1) := by decide +kernel
theorem dX9_doneIn_76 : decode cX9_doneIn 76 = .ok (.iload 5, 2) := by decide +kernel
theorem dX9_doneIn_78 : decode cX9_doneIn 78 = .ok (.iload_n 3, 1) := by decide +kernel
theorem dX9_doneIn_79 : decode cX9_doneIn 79 = .ok (.if_icmp .le 43, 3) := by decide +kernel
theorem dX9_doneIn_82 : decode cX9_doneIn 82 = .ok (.iload_n 2, 1) := by decide +kernel
theorem dX9_doneIn_83 : decode cX9_doneIn 83 = .ok (.sipush 200, 3) := by decide +kernel
theorem dX9_doneIn_86 : decode cX9_doneIn 86 = .ok (.if_icmp .gt 36, 3) := by decide +kernel
theorem dX9_doneIn_89 : decode cX9_doneIn 89 = .ok (.iinc 2 1, 3) := by decide +kernel
theorem dX9_doneIn_92 : decode cX9_doneIn 92 = .ok (.aload_n 0, 1) := by decide +kernel
theorem dX9_doneIn_93 : decode cX9_doneIn 93 = .ok (.aload_n 0, 1) := by decide +kernel
theorem dX9_doneIn_94 : decode cX9_doneIn 94 = .ok (.getfield 7, 3) := by decide +kernel
theorem dX9_doneIn_97 : decode cX9_doneIn 97 = .ok (.iconst 0, 1) := by decide +kernel
theorem dX9_doneIn_98 : decode cX9_doneIn 98 = .ok (.iaload, 1) := by decide +kernel
theorem dX9_doneIn_99 : decode cX9_doneIn 99 = .ok (.iload_n 2, 1) := by decide +kernel
theorem dX9_doneIn_100 : decode cX9_doneIn 100 = .ok (.iadd, 1) := by decide +kernel
theorem dX9_doneIn_101 : decode cX9_doneIn 101 = .ok (.invokevirtual 55, 3) := by decide +kernel
theorem dX9_doneIn_104 : decode cX9_doneIn 104 = .ok (.ifCond .eq 7, 3) := by decide +kernel
theorem dX9_doneIn_107 : decode cX9_doneIn 107 = .ok (.iconst 0, 1) := by decide +kernel
theorem dX9_doneIn_108 : decode cX9_doneIn 108 = .ok (.goto 10, 3) := by decide +kernel
theorem dX9_doneIn_111 : decode cX9_doneIn 111 = .ok (.aload_n 0, 1) := by decide +kernel
theorem dX9_doneIn_112 : decode cX9_doneIn 112 = .ok (.getfield 7, 3) := by decide +kernel
theorem dX9_doneIn_115 : decode cX9_doneIn 115 = .ok (.bipush 11, 2) := by decide +kernel
theorem dX9_doneIn_117 : decode cX9_doneIn 117 = .ok (.iaload, 1) := by decide +kernel
theorem dX9_doneIn_118 : decode cX9_doneIn 118 = .ok (.istore_n 3, 1) := by decide +kernel
theorem dX9_doneIn_119 : decode cX9_doneIn 119 = .ok (.goto (-43), 3) := by decide +kernel
theorem dX9_doneIn_122 : decode cX9_doneIn 122 = .ok (.iload_n 3, 1) := by decide +kernel
theorem dX9_doneIn_123 : decode cX9_doneIn 123 = .ok (.iload 5, 2) := by decide +kernel
theorem dX9_doneIn_125 : decode cX9_doneIn 125 = .ok (.isub, 1) := by decide +kernel
theorem dX9_doneIn_126 : decode cX9_doneIn 126 = .ok (.istore_n 3, 1) := by decide +kernel
theorem dX9_doneIn_127 : decode cX9_doneIn 127 = .ok (.iinc 4 1, 3) := by decide +kernel
theorem dX9_doneIn_130 : decode cX9_doneIn 130 = .ok (.goto (-92), 3) := by decide +kernel
theorem dX9_doneIn_133 : decode cX9_doneIn 133 = .ok (.iload_n 2, 1) := by decide +kernel
theorem dX9_doneIn_134 : decode cX9_doneIn 134 = .ok (.sipush 200, 3) := by decide +kernel
theorem dX9_doneIn_137 : decode cX9_doneIn 137 = .ok (.if_icmp .le 8, 3) := by decide +kernel
theorem dX9_doneIn_140 : decode cX9_doneIn 140 = .ok (.bipush (-9), 2) := by decide +kernel
theorem dX9_doneIn_142 : decode cX9_doneIn 142 = .ok (.goto 4, 3) := by decide +kernel
theorem dX9_doneIn_145 : decode cX9_doneIn 145 = .ok (.iload_n 2, 1) := by decide +kernel
theorem dX9_doneIn_146 : decode cX9_doneIn 146 = .ok (.ireturn, 1) := by decide +kernel
theorem dX9_weeksOf_0 : decode cX9_weeksOf 0 = .ok (.aload_n 0, 1) := by decide +kernel
theorem dX9_weeksOf_1 : decode cX9_weeksOf 1 = .ok (.iload_n 1, 1) := by decide +kernel
theorem dX9_weeksOf_2 : decode cX9_weeksOf 2 = .ok (.invokevirtual 123, 3) := by decide +kernel
theorem dX9_weeksOf_5 : decode cX9_weeksOf 5 = .ok (.aload_n 0, 1) := by decide +kernel
theorem dX9_weeksOf_6 : decode cX9_weeksOf 6 = .ok (.getfield 7, 3) := by decide +kernel
theorem dX9_weeksOf_9 : decode cX9_weeksOf 9 = .ok (.bipush 11, 2) := by decide +kernel
theorem dX9_weeksOf_11 : decode cX9_weeksOf 11 = .ok (.iaload, 1) := by decide +kernel
theorem dX9_weeksOf_12 : decode cX9_weeksOf 12 = .ok (.iadd, 1) := by decide +kernel
theorem dX9_weeksOf_13 : decode cX9_weeksOf 13 = .ok (.iconst 1, 1) := by decide +kernel
theorem dX9_weeksOf_14 : decode cX9_weeksOf 14 = .ok (.isub, 1) := by decide +kernel
theorem dX9_weeksOf_15 : decode cX9_weeksOf 15 = .ok (.aload_n 0, 1) := by decide +kernel
theorem dX9_weeksOf_16 : decode cX9_weeksOf 16 = .ok (.getfield 7, 3) := by decide +kernel
theorem dX9_weeksOf_19 : decode cX9_weeksOf 19 = .ok (.bipush 11, 2) := by decide +kernel
theorem dX9_weeksOf_21 : decode cX9_weeksOf 21 = .ok (.iaload, 1) := by decide +kernel
theorem dX9_weeksOf_22 : decode cX9_weeksOf 22 = .ok (.idiv, 1) := by decide +kernel
theorem dX9_weeksOf_23 : decode cX9_weeksOf 23 = .ok (.ireturn, 1) := by decide +kernel
theorem dX9_costs_0 : decode cX9_costs 0 = .ok (.aload_n 0, 1) := by decide +kernel
theorem dX9_costs_1 : decode cX9_costs 1 = .ok (.getfield 7, 3) := by decide +kernel
theorem dX9_costs_4 : decode cX9_costs 4 = .ok (.iconst 0, 1) := by decide +kernel
theorem dX9_costs_5 : decode cX9_costs 5 = .ok (.iaload, 1) := by decide +kernel
theorem dX9_costs_6 : decode cX9_costs 6 = .ok (.istore_n 3, 1) := by decide +kernel
theorem dX9_costs_7 : decode cX9_costs 7 = .ok (.iconst 0, 1) := by decide +kernel
theorem dX9_costs_8 : decode cX9_costs 8 = .ok (.istore 4, 2) := by decide +kernel
theorem dX9_costs_10 : decode cX9_costs 10 = .ok (.iload 4, 2) := by decide +kernel
theorem dX9_costs_12 : decode cX9_costs 12 = .ok (.bipush 6, 2) := by decide +kernel
theorem dX9_costs_14 : decode cX9_costs 14 = .ok (.if_icmp .ge 32, 3) := by decide +kernel
theorem dX9_costs_17 : decode cX9_costs 17 = .ok (.iload_n 3, 1) := by decide +kernel
theorem dX9_costs_18 : decode cX9_costs 18 = .ok (.iload_n 2, 1) := by decide +kernel
theorem dX9_costs_19 : decode cX9_costs 19 = .ok (.iload 4, 2) := by decide +kernel
theorem dX9_costs_21 : decode cX9_costs 21 = .ok (.ishr, 1) := by decide +kernel
theorem dX9_costs_22 : decode cX9_costs 22 = .ok (.iconst 1, 1) := by decide +kernel
theorem dX9_costs_23 : decode cX9_costs 23 = .ok (.iand, 1) := by decide +kernel
theorem dX9_costs_24 : decode cX9_costs 24 = .ok (.iconst 1, 1) := by decide +kernel
theorem dX9_costs_25 : decode cX9_costs 25 = .ok (.if_icmp .ne 12, 3) := by decide +kernel
theorem dX9_costs_28 : decode cX9_costs 28 = .ok (.aload_n 0, 1) := by decide +kernel
theorem dX9_costs_29 : decode cX9_costs 29 = .ok (.iload 4, 2) := by decide +kernel
theorem dX9_costs_31 : decode cX9_costs 31 = .ok (.invokevirtual 126, 3) := by decide +kernel
theorem dX9_costs_34 : decode cX9_costs 34 = .ok (.goto 4, 3) := by decide +kernel
theorem dX9_costs_37 : decode cX9_costs 37 = .ok (.iconst 0, 1) := by decide +kernel
theorem dX9_costs_38 : decode cX9_costs 38 = .ok (.iadd, 1) := by decide +kernel
theorem dX9_costs_39 : decode cX9_costs 39 = .ok (.istore_n 3, 1) := by decide +kernel
theorem dX9_costs_40 : decode cX9_costs 40 = .ok (.iinc 4 1, 3) := by decide +kernel
theorem dX9_costs_43 : decode cX9_costs 43 = .ok (.goto (-33), 3) := by decide +kernel
theorem dX9_costs_46 : decode cX9_costs 46 = .ok (.iload_n 3, 1) := by decide +kernel
theorem dX9_costs_47 : decode cX9_costs 47 = .ok (.aload_n 0, 1) := by decide +kernel
theorem dX9_costs_48 : decode cX9_costs 48 = .ok (.iload_n 1, 1) := by decide +kernel
theorem dX9_costs_49 : decode cX9_costs 49 = .ok (.iconst 2, 1) := by decide +kernel
theorem dX9_costs_50 : decode cX9_costs 50 = .ok (.invokevirtual 64, 3) := by decide +kernel
theorem dX9_costs_53 : decode cX9_costs 53 = .ok (.isub, 1) := by decide +kernel
theorem dX9_costs_54 : decode cX9_costs 54 = .ok (.istore 4, 2) := by decide +kernel
theorem dX9_costs_56 : decode cX9_costs 56 = .ok (.iload 4, 2) := by decide +kernel
theorem dX9_costs_58 : decode cX9_costs 58 = .ok (.ifCond .le 22, 3) := by decide +kernel
theorem dX9_costs_61 : decode cX9_costs 61 = .ok (.iload 4, 2) := by decide +kernel
theorem dX9_costs_63 : decode cX9_costs 63 = .ok (.aload_n 0, 1) := by decide +kernel
theorem dX9_costs_64 : decode cX9_costs 64 = .ok (.iload_n 1, 1) := by decide +kernel
theorem dX9_costs_65 : decode cX9_costs 65 = .ok (.iconst 3, 1) := by decide +kernel
theorem dX9_costs_66 : decode cX9_costs 66 = .ok (.invokevirtual 64, 3) := by decide +kernel
theorem dX9_costs_69 : decode cX9_costs 69 = .ok (.imul, 1) := by decide +kernel
theorem dX9_costs_70 : decode cX9_costs 70 = .ok (.aload_n 0, 1) := by decide +kernel
theorem dX9_costs_71 : decode cX9_costs 71 = .ok (.iload_n 1, 1) := by decide +kernel
theorem dX9_costs_72 : decode cX9_costs 72 = .ok (.iconst 0, 1) := by decide +kernel
theorem dX9_costs_73 : decode cX9_costs 73 = .ok (.invokevirtual 45, 3) := by decide +kernel
theorem dX9_costs_76 : decode cX9_costs 76 = .ok (.imul, 1) := by decide +kernel
theorem dX9_costs_77 : decode cX9_costs 77 = .ok (.goto 4, 3) := by decide +kernel
theorem dX9_costs_80 : decode cX9_costs 80 = .ok (.iconst 0, 1) := by decide +kernel
theorem dX9_costs_81 : decode cX9_costs 81 = .ok (.ireturn, 1) := by decide +kernel
theorem dX9_bestOrder_0 : decode cX9_bestOrder 0 = .ok (.iload_n 1, 1) := by decide +kernel
theorem dX9_bestOrder_1 : decode cX9_bestOrder 1 = .ok (.iconst 0, 1) := by decide +kernel
theorem dX9_bestOrder_2 : decode cX9_bestOrder 2 = .ok (.iconst 1, 1) := by decide +kernel
theorem dX9_bestOrder_3 : decode cX9_bestOrder 3 = .ok (.invokestatic 29, 3) := by decide +kernel
theorem dX9_bestOrder_6 : decode cX9_bestOrder 6 = .ok (.ifCond .ne 5, 3) := by decide +kernel
theorem dX9_bestOrder_9 : decode cX9_bestOrder 9 = .ok (.iconst (-1), 1) := by decide +kernel
theorem dX9_bestOrder_10 : decode cX9_bestOrder 10 = .ok (.ireturn, 1) := by decide +kernel
theorem dX9_bestOrder_11 : decode cX9_bestOrder 11 = .ok (.aload_n 0, 1) := by decide +kernel
theorem dX9_bestOrder_12 : decode cX9_bestOrder 12 = .ok (.invokevirtual 114, 3) := by decide +kernel
theorem dX9_bestOrder_15 : decode cX9_bestOrder 15 = .ok (.ifCond .ne 6, 3) := by decide +kernel
theorem dX9_bestOrder_18 : decode cX9_bestOrder 18 = .ok (.bipush (-9), 2) := by decide +kernel
theorem dX9_bestOrder_20 : decode cX9_bestOrder 20 = .ok (.ireturn, 1) := by decide +kernel
theorem dX9_bestOrder_21 : decode cX9_bestOrder 21 = .ok (.bipush (-9), 2) := by decide +kernel
theorem dX9_bestOrder_23 : decode cX9_bestOrder 23 = .ok (.istore_n 2, 1) := by decide +kernel
theorem dX9_bestOrder_24 : decode cX9_bestOrder 24 = .ok (.bipush 63, 2) := by decide +kernel
theorem dX9_bestOrder_26 : decode cX9_bestOrder 26 = .ok (.istore_n 3, 1) := by decide +kernel
theorem dX9_bestOrder_27 : decode cX9_bestOrder 27 = .ok (.iload_n 3, 1) := by decide +kernel
theorem dX9_bestOrder_28 : decode cX9_bestOrder 28 = .ok (.ifCond .lt 164, 3) := by decide +kernel
theorem dX9_bestOrder_31 : decode cX9_bestOrder 31 = .ok (.aload_n 0, 1) := by decide +kernel
theorem dX9_bestOrder_32 : decode cX9_bestOrder 32 = .ok (.getfield 19, 3) := by decide +kernel
theorem dX9_bestOrder_35 : decode cX9_bestOrder 35 = .ok (.iload_n 3, 1) := by decide +kernel
theorem dX9_bestOrder_36 : decode cX9_bestOrder 36 = .ok (.iconst (-1), 1) := by decide +kernel
theorem dX9_bestOrder_37 : decode cX9_bestOrder 37 = .ok (.iastore, 1) := by decide +kernel
theorem dX9_bestOrder_38 : decode cX9_bestOrder 38 = .ok (.iconst 0, 1) := by decide +kernel
theorem dX9_bestOrder_39 : decode cX9_bestOrder 39 = .ok (.istore 4, 2) := by decide +kernel
theorem dX9_bestOrder_41 : decode cX9_bestOrder 41 = .ok (.iload 4, 2) := by decide +kernel
theorem dX9_bestOrder_43 : decode cX9_bestOrder 43 = .ok (.bipush 6, 2) := by decide +kernel
theorem dX9_bestOrder_45 : decode cX9_bestOrder 45 = .ok (.if_icmp .ge 116, 3) := by decide +kernel
theorem dX9_bestOrder_48 : decode cX9_bestOrder 48 = .ok (.iload_n 3, 1) := by decide +kernel
theorem dX9_bestOrder_49 : decode cX9_bestOrder 49 = .ok (.iconst 1, 1) := by decide +kernel
theorem dX9_bestOrder_50 : decode cX9_bestOrder 50 = .ok (.iload 4, 2) := by decide +kernel
theorem dX9_bestOrder_52 : decode cX9_bestOrder 52 = .ok (.ishl, 1) := by decide +kernel
theorem dX9_bestOrder_53 : decode cX9_bestOrder 53 = .ok (.ior, 1) := by decide +kernel
theorem dX9_bestOrder_54 : decode cX9_bestOrder 54 = .ok (.istore 5, 2) := by decide +kernel
theorem dX9_bestOrder_56 : decode cX9_bestOrder 56 = .ok (.iload 5, 2) := by decide +kernel
theorem dX9_bestOrder_58 : decode cX9_bestOrder 58 = .ok (.iload_n 3, 1) := by decide +kernel
theorem dX9_bestOrder_59 : decode cX9_bestOrder 59 = .ok (.if_icmp .eq 96, 3) := by decide +kernel
theorem dX9_bestOrder_62 : decode cX9_bestOrder 62 = .ok (.aload_n 0, 1) := by decide +kernel
theorem dX9_bestOrder_63 : decode cX9_bestOrder 63 = .ok (.iload 4, 2) := by decide +kernel
theorem dX9_bestOrder_65 : decode cX9_bestOrder 65 = .ok (.iconst 0, 1) := by decide +kernel
theorem dX9_bestOrder_66 : decode cX9_bestOrder 66 = .ok (.invokevirtual 64, 3) := by decide +kernel
theorem dX9_bestOrder_69 : decode cX9_bestOrder 69 = .ok (.iconst 1, 1) := by decide +kernel
theorem dX9_bestOrder_70 : decode cX9_bestOrder 70 = .ok (.if_icmp .ne 85, 3) := by decide +kernel
theorem dX9_bestOrder_73 : decode cX9_bestOrder 73 = .ok (.aload_n 0, 1) := by decide +kernel
theorem dX9_bestOrder_74 : decode cX9_bestOrder 74 = .ok (.iload 4, 2) := by decide +kernel
theorem dX9_bestOrder_76 : decode cX9_bestOrder 76 = .ok (.iload 5, 2) := by decide +kernel
theorem dX9_bestOrder_78 : decode cX9_bestOrder 78 = .ok (.invokevirtual 129, 3) := by decide +kernel
theorem dX9_bestOrder_81 : decode cX9_bestOrder 81 = .ok (.aload_n 0, 1) := by decide +kernel
theorem dX9_bestOrder_82 : decode cX9_bestOrder 82 = .ok (.getfield 19, 3) := by decide +kernel
theorem dX9_bestOrder_85 : decode cX9_bestOrder 85 = .ok (.iload 5, 2) := by decide +kernel
theorem dX9_bestOrder_87 : decode cX9_bestOrder 87 = .ok (.iaload, 1) := by decide +kernel
theorem dX9_bestOrder_88 : decode cX9_bestOrder 88 = .ok (.iadd, 1) := by decide +kernel
theorem dX9_bestOrder_89 : decode cX9_bestOrder 89 = .ok (.istore 6, 2) := by decide +kernel
theorem dX9_bestOrder_91 : decode cX9_bestOrder 91 = .ok (.aload_n 0, 1) := by decide +kernel
theorem dX9_bestOrder_92 : decode cX9_bestOrder 92 = .ok (.getfield 19, 3) := by decide +kernel
theorem dX9_bestOrder_95 : decode cX9_bestOrder 95 = .ok (.iload_n 3, 1) := by decide +kernel
theorem dX9_bestOrder_96 : decode cX9_bestOrder 96 = .ok (.iaload, 1) := by decide +kernel
theorem dX9_bestOrder_97 : decode cX9_bestOrder 97 = .ok (.ifCond .lt 14, 3) := by decide +kernel
theorem dX9_bestOrder_100 : decode cX9_bestOrder 100 = .ok (.iload 6, 2) := by decide +kernel
theorem dX9_bestOrder_102 : decode cX9_bestOrder 102 = .ok (.aload_n 0, 1) := by decide +kernel
theorem dX9_bestOrder_103 : decode cX9_bestOrder 103 = .ok (.getfield 19, 3) := by decide +kernel
theorem dX9_bestOrder_106 : decode cX9_bestOrder 106 = .ok (.iload_n 3, 1) := by decide +kernel
theorem dX9_bestOrder_107 : decode cX9_bestOrder 107 = .ok (.iaload, 1) := by decide +kernel
theorem dX9_bestOrder_108 : decode cX9_bestOrder 108 = .ok (.if_icmp .ge 8, 3) := by decide +kernel
theorem dX9_bestOrder_111 : decode cX9_bestOrder 111 = .ok (.iload 4, 2) := by decide +kernel
theorem dX9_bestOrder_113 : decode cX9_bestOrder 113 = .ok (.goto 4, 3) := by decide +kernel
theorem dX9_bestOrder_116 : decode cX9_bestOrder 116 = .ok (.iload_n 2, 1) := by decide +kernel
theorem dX9_bestOrder_117 : decode cX9_bestOrder 117 = .ok (.istore_n 2, 1) := by decide +kernel
theorem dX9_bestOrder_118 : decode cX9_bestOrder 118 = .ok (.aload_n 0, 1) := by decide +kernel
theorem dX9_bestOrder_119 : decode cX9_bestOrder 119 = .ok (.getfield 19, 3) := by decide +kernel
theorem dX9_bestOrder_122 : decode cX9_bestOrder 122 = .ok (.iload_n 3, 1) := by decide +kernel
theorem dX9_bestOrder_123 : decode cX9_bestOrder 123 = .ok (.aload_n 0, 1) := by decide +kernel
theorem dX9_bestOrder_124 : decode cX9_bestOrder 124 = .ok (.getfield 19, 3) := by decide +kernel
theorem dX9_bestOrder_127 : decode cX9_bestOrder 127 = .ok (.iload_n 3, 1) := by decide +kernel
theorem dX9_bestOrder_128 : decode cX9_bestOrder 128 = .ok (.iaload, 1) := by decide +kernel
theorem dX9_bestOrder_129 : decode cX9_bestOrder 129 = .ok (.ifCond .lt 14, 3) := by decide +kernel
theorem dX9_bestOrder_132 : decode cX9_bestOrder 132 = .ok (.iload 6, 2) := by decide +kernel
theorem dX9_bestOrder_134 : decode cX9_bestOrder 134 = .ok (.aload_n 0, 1) := by decide +kernel
theorem dX9_bestOrder_135 : decode cX9_bestOrder 135 = .ok (.getfield 19, 3) := by decide +kernel
theorem dX9_bestOrder_138 : decode cX9_bestOrder 138 = .ok (.iload_n 3, 1) := by decide +kernel
theorem dX9_bestOrder_139 : decode cX9_bestOrder 139 = .ok (.iaload, 1) := by decide +kernel
theorem dX9_bestOrder_140 : decode cX9_bestOrder 140 = .ok (.if_icmp .ge 8, 3) := by decide +kernel
theorem dX9_bestOrder_143 : decode cX9_bestOrder 143 = .ok (.iload 6, 2) := by decide +kernel
theorem dX9_bestOrder_145 : decode cX9_bestOrder 145 = .ok (.goto 9, 3) := by decide +kernel
theorem dX9_bestOrder_148 : decode cX9_bestOrder 148 = .ok (.aload_n 0, 1) := by decide +kernel
theorem dX9_bestOrder_149 : decode cX9_bestOrder 149 = .ok (.getfield 19, 3) := by decide +kernel
theorem dX9_bestOrder_152 : decode cX9_bestOrder 152 = .ok (.iload_n 3, 1) := by decide +kernel
theorem dX9_bestOrder_153 : decode cX9_bestOrder 153 = .ok (.iaload, 1) := by decide +kernel
theorem dX9_bestOrder_154 : decode cX9_bestOrder 154 = .ok (.iastore, 1) := by decide +kernel
theorem dX9_bestOrder_155 : decode cX9_bestOrder 155 = .ok (.iinc 4 1, 3) := by decide +kernel
theorem dX9_bestOrder_158 : decode cX9_bestOrder 158 = .ok (.goto (-117), 3) := by decide +kernel
theorem dX9_bestOrder_161 : decode cX9_bestOrder 161 = .ok (.aload_n 0, 1) := by decide +kernel
theorem dX9_bestOrder_162 : decode cX9_bestOrder 162 = .ok (.getfield 19, 3) := by decide +kernel
theorem dX9_bestOrder_165 : decode cX9_bestOrder 165 = .ok (.iload_n 3, 1) := by decide +kernel
theorem dX9_bestOrder_166 : decode cX9_bestOrder 166 = .ok (.aload_n 0, 1) := by decide +kernel
theorem dX9_bestOrder_167 : decode cX9_bestOrder 167 = .ok (.getfield 19, 3) := by decide +kernel
theorem dX9_bestOrder_170 : decode cX9_bestOrder 170 = .ok (.iload_n 3, 1) := by decide +kernel
theorem dX9_bestOrder_171 : decode cX9_bestOrder 171 = .ok (.iaload, 1) := by decide +kernel
theorem dX9_bestOrder_172 : decode cX9_bestOrder 172 = .ok (.ifCond .ge 7, 3) := by decide +kernel
theorem dX9_bestOrder_175 : decode cX9_bestOrder 175 = .ok (.iconst 0, 1) := by decide +kernel
theorem dX9_bestOrder_176 : decode cX9_bestOrder 176 = .ok (.goto 9, 3) := by decide +kernel
theorem dX9_bestOrder_179 : decode cX9_bestOrder 179 = .ok (.aload_n 0, 1) := by decide +kernel
theorem dX9_bestOrder_180 : decode cX9_bestOrder 180 = .ok (.getfield 19, 3) := by decide +kernel
theorem dX9_bestOrder_183 : decode cX9_bestOrder 183 = .ok (.iload_n 3, 1) := by decide +kernel
theorem dX9_bestOrder_184 : decode cX9_bestOrder 184 = .ok (.iaload, 1) := by decide +kernel
theorem dX9_bestOrder_185 : decode cX9_bestOrder 185 = .ok (.iastore, 1) := by decide +kernel
theorem dX9_bestOrder_186 : decode cX9_bestOrder 186 = .ok (.iinc 3 (-1), 3) := by decide +kernel
theorem dX9_bestOrder_189 : decode cX9_bestOrder 189 = .ok (.goto (-162), 3) := by decide +kernel
theorem dX9_bestOrder_192 : decode cX9_bestOrder 192 = .ok (.iload_n 1, 1) := by decide +kernel
theorem dX9_bestOrder_193 : decode cX9_bestOrder 193 = .ok (.ifCond .ne 12, 3) := by decide +kernel
theorem dX9_bestOrder_196 : decode cX9_bestOrder 196 = .ok (.aload_n 0, 1) := by decide +kernel
theorem dX9_bestOrder_197 : decode cX9_bestOrder 197 = .ok (.getfield 19, 3) := by decide +kernel
theorem dX9_bestOrder_200 : decode cX9_bestOrder 200 = .ok (.iconst 0, 1) := by decide +kernel
theorem dX9_bestOrder_201 : decode cX9_bestOrder 201 = .ok (.iaload, 1) := by decide +kernel
theorem dX9_bestOrder_202 : decode cX9_bestOrder 202 = .ok (.goto 4, 3) := by decide +kernel
theorem dX9_bestOrder_205 : decode cX9_bestOrder 205 = .ok (.iload_n 2, 1) := by decide +kernel
theorem dX9_bestOrder_206 : decode cX9_bestOrder 206 = .ok (.ireturn, 1) := by decide +kernel
theorem dL_law_0 : decode cL_law 0 = .ok (.new 7, 3) := by decide +kernel
theorem dL_law_3 : decode cL_law 3 = .ok (.dup, 1) := by decide +kernel
theorem dL_law_4 : decode cL_law 4 = .ok (.invokespecial 9, 3) := by decide +kernel
theorem dL_law_7 : decode cL_law 7 = .ok (.astore_n 1, 1) := by decide +kernel
theorem dL_law_8 : decode cL_law 8 = .ok (.new 10, 3) := by decide +kernel
theorem dL_law_11 : decode cL_law 11 = .ok (.dup, 1) := by decide +kernel
theorem dL_law_12 : decode cL_law 12 = .ok (.invokespecial 12, 3) := by decide +kernel
theorem dL_law_15 : decode cL_law 15 = .ok (.astore_n 2, 1) := by decide +kernel
theorem dL_law_16 : decode cL_law 16 = .ok (.iconst 0, 1) := by decide +kernel
theorem dL_law_17 : decode cL_law 17 = .ok (.istore_n 3, 1) := by decide +kernel
theorem dL_law_18 : decode cL_law 18 = .ok (.iload_n 3, 1) := by decide +kernel
theorem dL_law_19 : decode cL_law 19 = .ok (.aload_n 0, 1) := by decide +kernel
theorem dL_law_20 : decode cL_law 20 = .ok (.arraylength, 1) := by decide +kernel
theorem dL_law_21 : decode cL_law 21 = .ok (.iconst 5, 1) := by decide +kernel
theorem dL_law_22 : decode cL_law 22 = .ok (.isub, 1) := by decide +kernel
theorem dL_law_23 : decode cL_law 23 = .ok (.if_icmp .gt 725, 3) := by decide +kernel
theorem dL_law_26 : decode cL_law 26 = .ok (.aload_n 0, 1) := by decide +kernel
theorem dL_law_27 : decode cL_law 27 = .ok (.iload_n 3, 1) := by decide +kernel
theorem dL_law_28 : decode cL_law 28 = .ok (.iaload, 1) := by decide +kernel
theorem dL_law_29 : decode cL_law 29 = .ok (.bipush 31, 2) := by decide +kernel
theorem dL_law_31 : decode cL_law 31 = .ok (.iand, 1) := by decide +kernel
theorem dL_law_32 : decode cL_law 32 = .ok (.tableswitch 710 0 21 #[104, 147, 180, 213, 246, 269, 302, 355, 378, 391, 414, 437, 450, 473, 486, 509, 532, 565, 608, 641, 664, 687], 104) := by decide +kernel
theorem dL_law_136 : decode cL_law 136 = .ok (.aload_n 1, 1) := by decide +kernel
theorem dL_law_137 : decode cL_law 137 = .ok (.aload_n 0, 1) := by decide +kernel
theorem dL_law_138 : decode cL_law 138 = .ok (.iload_n 3, 1) := by decide +kernel
theorem dL_law_139 : decode cL_law 139 = .ok (.iconst 1, 1) := by decide +kernel
theorem dL_law_140 : decode cL_law 140 = .ok (.iadd, 1) := by decide +kernel
theorem dL_law_141 : decode cL_law 141 = .ok (.iaload, 1) := by decide +kernel
theorem dL_law_142 : decode cL_law 142 = .ok (.aload_n 0, 1) := by decide +kernel
theorem dL_law_143 : decode cL_law 143 = .ok (.iload_n 3, 1) := by decide +kernel
theorem dL_law_144 : decode cL_law 144 = .ok (.iconst 2, 1) := by decide +kernel
theorem dL_law_145 : decode cL_law 145 = .ok (.iadd, 1) := by decide +kernel
theorem dL_law_146 : decode cL_law 146 = .ok (.iaload, 1) := by decide +kernel
theorem dL_law_147 : decode cL_law 147 = .ok (.aload_n 0, 1) := by decide +kernel
theorem dL_law_148 : decode cL_law 148 = .ok (.iload_n 3, 1) := by decide +kernel
theorem dL_law_149 : decode cL_law 149 = .ok (.iconst 3, 1) := by decide +kernel
theorem dL_law_150 : decode cL_law 150 = .ok (.iadd, 1) := by decide +kernel
theorem dL_law_151 : decode cL_law 151 = .ok (.iaload, 1) := by decide +kernel
theorem dL_law_152 : decode cL_law 152 = .ok (.invokevirtual 13, 3) := by decide +kernel
theorem dL_law_155 : decode cL_law 155 = .ok (.aload_n 2, 1) := by decide +kernel
theorem dL_law_156 : decode cL_law 156 = .ok (.aload_n 0, 1) := by decide +kernel
theorem dL_law_157 : decode cL_law 157 = .ok (.iload_n 3, 1) := by decide +kernel
theorem dL_law_158 : decode cL_law 158 = .ok (.iconst 1, 1) := by decide +kernel
theorem dL_law_159 : decode cL_law 159 = .ok (.iadd, 1) := by decide +kernel
theorem dL_law_160 : decode cL_law 160 = .ok (.iaload, 1) := by decide +kernel
theorem dL_law_161 : decode cL_law 161 = .ok (.aload_n 0, 1) := by decide +kernel
theorem dL_law_162 : decode cL_law 162 = .ok (.iload_n 3, 1) := by decide +kernel
theorem dL_law_163 : decode cL_law 163 = .ok (.iconst 2, 1) := by decide +kernel
theorem dL_law_164 : decode cL_law 164 = .ok (.iadd, 1) := by decide +kernel
theorem dL_law_165 : decode cL_law 165 = .ok (.iaload, 1) := by decide +kernel
theorem dL_law_166 : decode cL_law 166 = .ok (.aload_n 0, 1) := by decide +kernel
theorem dL_law_167 : decode cL_law 167 = .ok (.iload_n 3, 1) := by decide +kernel
theorem dL_law_168 : decode cL_law 168 = .ok (.iconst 3, 1) := by decide +kernel
theorem dL_law_169 : decode cL_law 169 = .ok (.iadd, 1) := by decide +kernel
theorem dL_law_170 : decode cL_law 170 = .ok (.iaload, 1) := by decide +kernel
theorem dL_law_171 : decode cL_law 171 = .ok (.invokevirtual 17, 3) := by decide +kernel
theorem dL_law_174 : decode cL_law 174 = .ok (.if_icmp .eq 568, 3) := by decide +kernel
theorem dL_law_177 : decode cL_law 177 = .ok (.iconst 0, 1) := by decide +kernel
theorem dL_law_178 : decode cL_law 178 = .ok (.ireturn, 1) := by decide +kernel
theorem dL_law_179 : decode cL_law 179 = .ok (.aload_n 1, 1) := by decide +kernel
theorem dL_law_180 : decode cL_law 180 = .ok (.aload_n 0, 1) := by decide +kernel
theorem dL_law_181 : decode cL_law 181 = .ok (.iload_n 3, 1) := by decide +kernel
theorem dL_law_182 : decode cL_law 182 = .ok (.iconst 1, 1) := by decide +kernel
theorem dL_law_183 : decode cL_law 183 = .ok (.iadd, 1) := by decide +kernel
theorem dL_law_184 : decode cL_law 184 = .ok (.iaload, 1) := by decide +kernel
theorem dL_law_185 : decode cL_law 185 = .ok (.aload_n 0, 1) := by decide +kernel
theorem dL_law_186 : decode cL_law 186 = .ok (.iload_n 3, 1) := by decide +kernel
theorem dL_law_187 : decode cL_law 187 = .ok (.iconst 2, 1) := by decide +kernel
theorem dL_law_188 : decode cL_law 188 = .ok (.iadd, 1) := by decide +kernel
theorem dL_law_189 : decode cL_law 189 = .ok (.iaload, 1) := by decide +kernel
theorem dL_law_190 : decode cL_law 190 = .ok (.invokevirtual 18, 3) := by decide +kernel
theorem dL_law_193 : decode cL_law 193 = .ok (.aload_n 2, 1) := by decide +kernel
theorem dL_law_194 : decode cL_law 194 = .ok (.aload_n 0, 1) := by decide +kernel
theorem dL_law_195 : decode cL_law 195 = .ok (.iload_n 3, 1) := by decide +kernel
theorem dL_law_196 : decode cL_law 196 = .ok (.iconst 1, 1) := by decide +kernel
theorem dL_law_197 : decode cL_law 197 = .ok (.iadd, 1) := by decide +kernel
theorem dL_law_198 : decode cL_law 198 = .ok (.iaload, 1) := by decide +kernel
theorem dL_law_199 : decode cL_law 199 = .ok (.aload_n 0, 1) := by decide +kernel
theorem dL_law_200 : decode cL_law 200 = .ok (.iload_n 3, 1) := by decide +kernel
theorem dL_law_201 : decode cL_law 201 = .ok (.iconst 2, 1) := by decide +kernel
theorem dL_law_202 : decode cL_law 202 = .ok (.iadd, 1) := by decide +kernel
theorem dL_law_203 : decode cL_law 203 = .ok (.iaload, 1) := by decide +kernel
theorem dL_law_204 : decode cL_law 204 = .ok (.invokevirtual 22, 3) := by decide +kernel
theorem dL_law_207 : decode cL_law 207 = .ok (.if_icmp .eq 535, 3) := by decide +kernel
theorem dL_law_210 : decode cL_law 210 = .ok (.iconst 0, 1) := by decide +kernel
theorem dL_law_211 : decode cL_law 211 = .ok (.ireturn, 1) := by decide +kernel
theorem dL_law_212 : decode cL_law 212 = .ok (.aload_n 1, 1) := by decide +kernel
theorem dL_law_213 : decode cL_law 213 = .ok (.aload_n 0, 1) := by decide +kernel
theorem dL_law_214 : decode cL_law 214 = .ok (.iload_n 3, 1) := by decide +kernel
theorem dL_law_215 : decode cL_law 215 = .ok (.iconst 1, 1) := by decide +kernel
theorem dL_law_216 : decode cL_law 216 = .ok (.iadd, 1) := by decide +kernel
theorem dL_law_217 : decode cL_law 217 = .ok (.iaload, 1) := by decide +kernel
theorem dL_law_218 : decode cL_law 218 = .ok (.aload_n 0, 1) := by decide +kernel
theorem dL_law_219 : decode cL_law 219 = .ok (.iload_n 3, 1) := by decide +kernel
theorem dL_law_220 : decode cL_law 220 = .ok (.iconst 2, 1) := by decide +kernel
theorem dL_law_221 : decode cL_law 221 = .ok (.iadd, 1) := by decide +kernel
theorem dL_law_222 : decode cL_law 222 = .ok (.iaload, 1) := by decide +kernel
theorem dL_law_223 : decode cL_law 223 = .ok (.invokevirtual 23, 3) := by decide +kernel
theorem dL_law_226 : decode cL_law 226 = .ok (.aload_n 2, 1) := by decide +kernel
theorem dL_law_227 : decode cL_law 227 = .ok (.aload_n 0, 1) := by decide +kernel
theorem dL_law_228 : decode cL_law 228 = .ok (.iload_n 3, 1) := by decide +kernel
theorem dL_law_229 : decode cL_law 229 = .ok (.iconst 1, 1) := by decide +kernel
theorem dL_law_230 : decode cL_law 230 = .ok (.iadd, 1) := by decide +kernel
theorem dL_law_231 : decode cL_law 231 = .ok (.iaload, 1) := by decide +kernel
theorem dL_law_232 : decode cL_law 232 = .ok (.aload_n 0, 1) := by decide +kernel
theorem dL_law_233 : decode cL_law 233 = .ok (.iload_n 3, 1) := by decide +kernel
theorem dL_law_234 : decode cL_law 234 = .ok (.iconst 2, 1) := by decide +kernel
theorem dL_law_235 : decode cL_law 235 = .ok (.iadd, 1) := by decide +kernel
theorem dL_law_236 : decode cL_law 236 = .ok (.iaload, 1) := by decide +kernel
theorem dL_law_237 : decode cL_law 237 = .ok (.invokevirtual 26, 3) := by decide +kernel
theorem dL_law_240 : decode cL_law 240 = .ok (.if_icmp .eq 502, 3) := by decide +kernel
theorem dL_law_243 : decode cL_law 243 = .ok (.iconst 0, 1) := by decide +kernel
theorem dL_law_244 : decode cL_law 244 = .ok (.ireturn, 1) := by decide +kernel
theorem dL_law_245 : decode cL_law 245 = .ok (.aload_n 1, 1) := by decide +kernel
theorem dL_law_246 : decode cL_law 246 = .ok (.aload_n 0, 1) := by decide +kernel
theorem dL_law_247 : decode cL_law 247 = .ok (.iload_n 3, 1) := by decide +kernel
theorem dL_law_248 : decode cL_law 248 = .ok (.iconst 1, 1) := by decide +kernel
theorem dL_law_249 : decode cL_law 249 = .ok (.iadd, 1) := by decide +kernel
theorem dL_law_250 : decode cL_law 250 = .ok (.iaload, 1) := by decide +kernel
theorem dL_law_251 : decode cL_law 251 = .ok (.aload_n 0, 1) := by decide +kernel
theorem dL_law_252 : decode cL_law 252 = .ok (.iload_n 3, 1) := by decide +kernel
theorem dL_law_253 : decode cL_law 253 = .ok (.iconst 2, 1) := by decide +kernel
theorem dL_law_254 : decode cL_law 254 = .ok (.iadd, 1) := by decide +kernel
theorem dL_law_255 : decode cL_law 255 = .ok (.iaload, 1) := by decide +kernel
theorem dL_law_256 : decode cL_law 256 = .ok (.invokevirtual 27, 3) := by decide +kernel
theorem dL_law_259 : decode cL_law 259 = .ok (.aload_n 2, 1) := by decide +kernel
theorem dL_law_260 : decode cL_law 260 = .ok (.aload_n 0, 1) := by decide +kernel
theorem dL_law_261 : decode cL_law 261 = .ok (.iload_n 3, 1) := by decide +kernel
theorem dL_law_262 : decode cL_law 262 = .ok (.iconst 1, 1) := by decide +kernel
theorem dL_law_263 : decode cL_law 263 = .ok (.iadd, 1) := by decide +kernel
theorem dL_law_264 : decode cL_law 264 = .ok (.iaload, 1) := by decide +kernel
theorem dL_law_265 : decode cL_law 265 = .ok (.aload_n 0, 1) := by decide +kernel
theorem dL_law_266 : decode cL_law 266 = .ok (.iload_n 3, 1) := by decide +kernel
theorem dL_law_267 : decode cL_law 267 = .ok (.iconst 2, 1) := by decide +kernel
theorem dL_law_268 : decode cL_law 268 = .ok (.iadd, 1) := by decide +kernel
theorem dL_law_269 : decode cL_law 269 = .ok (.iaload, 1) := by decide +kernel
theorem dL_law_270 : decode cL_law 270 = .ok (.invokevirtual 30, 3) := by decide +kernel
theorem dL_law_273 : decode cL_law 273 = .ok (.if_icmp .eq 469, 3) := by decide +kernel
theorem dL_law_276 : decode cL_law 276 = .ok (.iconst 0, 1) := by decide +kernel
theorem dL_law_277 : decode cL_law 277 = .ok (.ireturn, 1) := by decide +kernel
theorem dL_law_278 : decode cL_law 278 = .ok (.aload_n 1, 1) := by decide +kernel
theorem dL_law_279 : decode cL_law 279 = .ok (.aload_n 0, 1) := by decide +kernel
theorem dL_law_280 : decode cL_law 280 = .ok (.iload_n 3, 1) := by decide +kernel
theorem dL_law_281 : decode cL_law 281 = .ok (.iconst 1, 1) := by decide +kernel
theorem dL_law_282 : decode cL_law 282 = .ok (.iadd, 1) := by decide +kernel
theorem dL_law_283 : decode cL_law 283 = .ok (.iaload, 1) := by decide +kernel
theorem dL_law_284 : decode cL_law 284 = .ok (.invokevirtual 31, 3) := by decide +kernel
theorem dL_law_287 : decode cL_law 287 = .ok (.aload_n 2, 1) := by decide +kernel
theorem dL_law_288 : decode cL_law 288 = .ok (.aload_n 0, 1) := by decide +kernel
theorem dL_law_289 : decode cL_law 289 = .ok (.iload_n 3, 1) := by decide +kernel
theorem dL_law_290 : decode cL_law 290 = .ok (.iconst 1, 1) := by decide +kernel
theorem dL_law_291 : decode cL_law 291 = .ok (.iadd, 1) := by decide +kernel
theorem dL_law_292 : decode cL_law 292 = .ok (.iaload, 1) := by decide +kernel
theorem dL_law_293 : decode cL_law 293 = .ok (.invokevirtual 35, 3) := by decide +kernel
theorem dL_law_296 : decode cL_law 296 = .ok (.if_icmp .eq 446, 3) := by decide +kernel
theorem dL_law_299 : decode cL_law 299 = .ok (.iconst 0, 1) := by decide +kernel
theorem dL_law_300 : decode cL_law 300 = .ok (.ireturn, 1) := by decide +kernel
theorem dL_law_301 : decode cL_law 301 = .ok (.aload_n 1, 1) := by decide +kernel
theorem dL_law_302 : decode cL_law 302 = .ok (.aload_n 0, 1) := by decide +kernel
theorem dL_law_303 : decode cL_law 303 = .ok (.iload_n 3, 1) := by decide +kernel
theorem dL_law_304 : decode cL_law 304 = .ok (.iconst 1, 1) := by decide +kernel
theorem dL_law_305 : decode cL_law 305 = .ok (.iadd, 1) := by decide +kernel
theorem dL_law_306 : decode cL_law 306 = .ok (.iaload, 1) := by decide +kernel
theorem dL_law_307 : decode cL_law 307 = .ok (.aload_n 0, 1) := by decide +kernel
theorem dL_law_308 : decode cL_law 308 = .ok (.iload_n 3, 1) := by decide +kernel
theorem dL_law_309 : decode cL_law 309 = .ok (.iconst 2, 1) := by decide +kernel
theorem dL_law_310 : decode cL_law 310 = .ok (.iadd, 1) := by decide +kernel
theorem dL_law_311 : decode cL_law 311 = .ok (.iaload, 1) := by decide +kernel
theorem dL_law_312 : decode cL_law 312 = .ok (.invokevirtual 36, 3) := by decide +kernel
theorem dL_law_315 : decode cL_law 315 = .ok (.aload_n 2, 1) := by decide +kernel
theorem dL_law_316 : decode cL_law 316 = .ok (.aload_n 0, 1) := by decide +kernel
theorem dL_law_317 : decode cL_law 317 = .ok (.iload_n 3, 1) := by decide +kernel
theorem dL_law_318 : decode cL_law 318 = .ok (.iconst 1, 1) := by decide +kernel
theorem dL_law_319 : decode cL_law 319 = .ok (.iadd, 1) := by decide +kernel
theorem dL_law_320 : decode cL_law 320 = .ok (.iaload, 1) := by decide +kernel
theorem dL_law_321 : decode cL_law 321 = .ok (.aload_n 0, 1) := by decide +kernel
theorem dL_law_322 : decode cL_law 322 = .ok (.iload_n 3, 1) := by decide +kernel
theorem dL_law_323 : decode cL_law 323 = .ok (.iconst 2, 1) := by decide +kernel
theorem dL_law_324 : decode cL_law 324 = .ok (.iadd, 1) := by decide +kernel
theorem dL_law_325 : decode cL_law 325 = .ok (.iaload, 1) := by decide +kernel
theorem dL_law_326 : decode cL_law 326 = .ok (.invokevirtual 39, 3) := by decide +kernel
theorem dL_law_329 : decode cL_law 329 = .ok (.if_icmp .eq 413, 3) := by decide +kernel
theorem dL_law_332 : decode cL_law 332 = .ok (.iconst 0, 1) := by decide +kernel
theorem dL_law_333 : decode cL_law 333 = .ok (.ireturn, 1) := by decide +kernel
theorem dL_law_334 : decode cL_law 334 = .ok (.aload_n 1, 1) := by decide +kernel
theorem dL_law_335 : decode cL_law 335 = .ok (.aload_n 0, 1) := by decide +kernel
theorem dL_law_336 : decode cL_law 336 = .ok (.iload_n 3, 1) := by decide +kernel
theorem dL_law_337 : decode cL_law 337 = .ok (.iconst 1, 1) := by decide +kernel
theorem dL_law_338 : decode cL_law 338 = .ok (.iadd, 1) := by decide +kernel
theorem dL_law_339 : decode cL_law 339 = .ok (.iaload, 1) := by decide +kernel
theorem dL_law_340 : decode cL_law 340 = .ok (.aload_n 0, 1) := by decide +kernel
theorem dL_law_341 : decode cL_law 341 = .ok (.iload_n 3, 1) := by decide +kernel
theorem dL_law_342 : decode cL_law 342 = .ok (.iconst 2, 1) := by decide +kernel
theorem dL_law_343 : decode cL_law 343 = .ok (.iadd, 1) := by decide +kernel
theorem dL_law_344 : decode cL_law 344 = .ok (.iaload, 1) := by decide +kernel
theorem dL_law_345 : decode cL_law 345 = .ok (.aload_n 0, 1) := by decide +kernel
theorem dL_law_346 : decode cL_law 346 = .ok (.iload_n 3, 1) := by decide +kernel
theorem dL_law_347 : decode cL_law 347 = .ok (.iconst 3, 1) := by decide +kernel
theorem dL_law_348 : decode cL_law 348 = .ok (.iadd, 1) := by decide +kernel
theorem dL_law_349 : decode cL_law 349 = .ok (.iaload, 1) := by decide +kernel
theorem dL_law_350 : decode cL_law 350 = .ok (.aload_n 0, 1) := by decide +kernel
theorem dL_law_351 : decode cL_law 351 = .ok (.iload_n 3, 1) := by decide +kernel
theorem dL_law_352 : decode cL_law 352 = .ok (.iconst 4, 1) := by decide +kernel
theorem dL_law_353 : decode cL_law 353 = .ok (.iadd, 1) := by decide +kernel
theorem dL_law_354 : decode cL_law 354 = .ok (.iaload, 1) := by decide +kernel
theorem dL_law_355 : decode cL_law 355 = .ok (.invokevirtual 40, 3) := by decide +kernel
theorem dL_law_358 : decode cL_law 358 = .ok (.aload_n 2, 1) := by decide +kernel
theorem dL_law_359 : decode cL_law 359 = .ok (.aload_n 0, 1) := by decide +kernel
theorem dL_law_360 : decode cL_law 360 = .ok (.iload_n 3, 1) := by decide +kernel
theorem dL_law_361 : decode cL_law 361 = .ok (.iconst 1, 1) := by decide +kernel
theorem dL_law_362 : decode cL_law 362 = .ok (.iadd, 1) := by decide +kernel
theorem dL_law_363 : decode cL_law 363 = .ok (.iaload, 1) := by decide +kernel
theorem dL_law_364 : decode cL_law 364 = .ok (.aload_n 0, 1) := by decide +kernel
theorem dL_law_365 : decode cL_law 365 = .ok (.iload_n 3, 1) := by decide +kernel
theorem dL_law_366 : decode cL_law 366 = .ok (.iconst 2, 1) := by decide +kernel
theorem dL_law_367 : decode cL_law 367 = .ok (.iadd, 1) := by decide +kernel
theorem dL_law_368 : decode cL_law 368 = .ok (.iaload, 1) := by decide +kernel
theorem dL_law_369 : decode cL_law 369 = .ok (.aload_n 0, 1) := by decide +kernel
theorem dL_law_370 : decode cL_law 370 = .ok (.iload_n 3, 1) := by decide +kernel
theorem dL_law_371 : decode cL_law 371 = .ok (.iconst 3, 1) := by decide +kernel
theorem dL_law_372 : decode cL_law 372 = .ok (.iadd, 1) := by decide +kernel
theorem dL_law_373 : decode cL_law 373 = .ok (.iaload, 1) := by decide +kernel
theorem dL_law_374 : decode cL_law 374 = .ok (.aload_n 0, 1) := by decide +kernel
theorem dL_law_375 : decode cL_law 375 = .ok (.iload_n 3, 1) := by decide +kernel
theorem dL_law_376 : decode cL_law 376 = .ok (.iconst 4, 1) := by decide +kernel
theorem dL_law_377 : decode cL_law 377 = .ok (.iadd, 1) := by decide +kernel
theorem dL_law_378 : decode cL_law 378 = .ok (.iaload, 1) := by decide +kernel
theorem dL_law_379 : decode cL_law 379 = .ok (.invokevirtual 44, 3) := by decide +kernel
theorem dL_law_382 : decode cL_law 382 = .ok (.if_icmp .eq 360, 3) := by decide +kernel
theorem dL_law_385 : decode cL_law 385 = .ok (.iconst 0, 1) := by decide +kernel
theorem dL_law_386 : decode cL_law 386 = .ok (.ireturn, 1) := by decide +kernel
theorem dL_law_387 : decode cL_law 387 = .ok (.aload_n 1, 1) := by decide +kernel
theorem dL_law_388 : decode cL_law 388 = .ok (.aload_n 0, 1) := by decide +kernel
theorem dL_law_389 : decode cL_law 389 = .ok (.iload_n 3, 1) := by decide +kernel
theorem dL_law_390 : decode cL_law 390 = .ok (.iconst 1, 1) := by decide +kernel
theorem dL_law_391 : decode cL_law 391 = .ok (.iadd, 1) := by decide +kernel
theorem dL_law_392 : decode cL_law 392 = .ok (.iaload, 1) := by decide +kernel
theorem dL_law_393 : decode cL_law 393 = .ok (.invokevirtual 45, 3) := by decide +kernel
theorem dL_law_396 : decode cL_law 396 = .ok (.aload_n 2, 1) := by decide +kernel
theorem dL_law_397 : decode cL_law 397 = .ok (.aload_n 0, 1) := by decide +kernel
theorem dL_law_398 : decode cL_law 398 = .ok (.iload_n 3, 1) := by decide +kernel
theorem dL_law_399 : decode cL_law 399 = .ok (.iconst 1, 1) := by decide +kernel
theorem dL_law_400 : decode cL_law 400 = .ok (.iadd, 1) := by decide +kernel
theorem dL_law_401 : decode cL_law 401 = .ok (.iaload, 1) := by decide +kernel
theorem dL_law_402 : decode cL_law 402 = .ok (.invokevirtual 48, 3) := by decide +kernel
theorem dL_law_405 : decode cL_law 405 = .ok (.if_icmp .eq 337, 3) := by decide +kernel
theorem dL_law_408 : decode cL_law 408 = .ok (.iconst 0, 1) := by decide +kernel
theorem dL_law_409 : decode cL_law 409 = .ok (.ireturn, 1) := by decide +kernel
theorem dL_law_410 : decode cL_law 410 = .ok (.aload_n 1, 1) := by decide +kernel
theorem dL_law_411 : decode cL_law 411 = .ok (.invokevirtual 49, 3) := by decide +kernel
theorem dL_law_414 : decode cL_law 414 = .ok (.aload_n 2, 1) := by decide +kernel
theorem dL_law_415 : decode cL_law 415 = .ok (.invokevirtual 53, 3) := by decide +kernel
theorem dL_law_418 : decode cL_law 418 = .ok (.if_icmp .eq 324, 3) := by decide +kernel
theorem dL_law_421 : decode cL_law 421 = .ok (.iconst 0, 1) := by decide +kernel
theorem dL_law_422 : decode cL_law 422 = .ok (.ireturn, 1) := by decide +kernel
theorem dL_law_423 : decode cL_law 423 = .ok (.aload_n 1, 1) := by decide +kernel
theorem dL_law_424 : decode cL_law 424 = .ok (.aload_n 0, 1) := by decide +kernel
theorem dL_law_425 : decode cL_law 425 = .ok (.iload_n 3, 1) := by decide +kernel
theorem dL_law_426 : decode cL_law 426 = .ok (.iconst 1, 1) := by decide +kernel
theorem dL_law_427 : decode cL_law 427 = .ok (.iadd, 1) := by decide +kernel
theorem dL_law_428 : decode cL_law 428 = .ok (.iaload, 1) := by decide +kernel
theorem dL_law_429 : decode cL_law 429 = .ok (.invokevirtual 54, 3) := by decide +kernel
theorem dL_law_432 : decode cL_law 432 = .ok (.aload_n 2, 1) := by decide +kernel
theorem dL_law_433 : decode cL_law 433 = .ok (.aload_n 0, 1) := by decide +kernel
theorem dL_law_434 : decode cL_law 434 = .ok (.iload_n 3, 1) := by decide +kernel
theorem dL_law_435 : decode cL_law 435 = .ok (.iconst 1, 1) := by decide +kernel
theorem dL_law_436 : decode cL_law 436 = .ok (.iadd, 1) := by decide +kernel
theorem dL_law_437 : decode cL_law 437 = .ok (.iaload, 1) := by decide +kernel
theorem dL_law_438 : decode cL_law 438 = .ok (.invokevirtual 57, 3) := by decide +kernel
theorem dL_law_441 : decode cL_law 441 = .ok (.if_icmp .eq 301, 3) := by decide +kernel
theorem dL_law_444 : decode cL_law 444 = .ok (.iconst 0, 1) := by decide +kernel
theorem dL_law_445 : decode cL_law 445 = .ok (.ireturn, 1) := by decide +kernel
theorem dL_law_446 : decode cL_law 446 = .ok (.aload_n 1, 1) := by decide +kernel
theorem dL_law_447 : decode cL_law 447 = .ok (.aload_n 0, 1) := by decide +kernel
theorem dL_law_448 : decode cL_law 448 = .ok (.iload_n 3, 1) := by decide +kernel
theorem dL_law_449 : decode cL_law 449 = .ok (.iconst 1, 1) := by decide +kernel
theorem dL_law_450 : decode cL_law 450 = .ok (.iadd, 1) := by decide +kernel
theorem dL_law_451 : decode cL_law 451 = .ok (.iaload, 1) := by decide +kernel
theorem dL_law_452 : decode cL_law 452 = .ok (.invokevirtual 58, 3) := by decide +kernel
theorem dL_law_455 : decode cL_law 455 = .ok (.aload_n 2, 1) := by decide +kernel
theorem dL_law_456 : decode cL_law 456 = .ok (.aload_n 0, 1) := by decide +kernel
theorem dL_law_457 : decode cL_law 457 = .ok (.iload_n 3, 1) := by decide +kernel
theorem dL_law_458 : decode cL_law 458 = .ok (.iconst 1, 1) := by decide +kernel
theorem dL_law_459 : decode cL_law 459 = .ok (.iadd, 1) := by decide +kernel
theorem dL_law_460 : decode cL_law 460 = .ok (.iaload, 1) := by decide +kernel
theorem dL_law_461 : decode cL_law 461 = .ok (.invokevirtual 61, 3) := by decide +kernel
theorem dL_law_464 : decode cL_law 464 = .ok (.if_icmp .eq 278, 3) := by decide +kernel
theorem dL_law_467 : decode cL_law 467 = .ok (.iconst 0, 1) := by decide +kernel
theorem dL_law_468 : decode cL_law 468 = .ok (.ireturn, 1) := by decide +kernel
theorem dL_law_469 : decode cL_law 469 = .ok (.aload_n 1, 1) := by decide +kernel
theorem dL_law_470 : decode cL_law 470 = .ok (.invokevirtual 62, 3) := by decide +kernel
theorem dL_law_473 : decode cL_law 473 = .ok (.aload_n 2, 1) := by decide +kernel
theorem dL_law_474 : decode cL_law 474 = .ok (.invokevirtual 65, 3) := by decide +kernel
theorem dL_law_477 : decode cL_law 477 = .ok (.if_icmp .eq 265, 3) := by decide +kernel
theorem dL_law_480 : decode cL_law 480 = .ok (.iconst 0, 1) := by decide +kernel
theorem dL_law_481 : decode cL_law 481 = .ok (.ireturn, 1) := by decide +kernel
theorem dL_law_482 : decode cL_law 482 = .ok (.aload_n 1, 1) := by decide +kernel
theorem dL_law_483 : decode cL_law 483 = .ok (.aload_n 0, 1) := by decide +kernel
theorem dL_law_484 : decode cL_law 484 = .ok (.iload_n 3, 1) := by decide +kernel
theorem dL_law_485 : decode cL_law 485 = .ok (.iconst 1, 1) := by decide +kernel
theorem dL_law_486 : decode cL_law 486 = .ok (.iadd, 1) := by decide +kernel
theorem dL_law_487 : decode cL_law 487 = .ok (.iaload, 1) := by decide +kernel
theorem dL_law_488 : decode cL_law 488 = .ok (.invokevirtual 66, 3) := by decide +kernel
theorem dL_law_491 : decode cL_law 491 = .ok (.aload_n 2, 1) := by decide +kernel
theorem dL_law_492 : decode cL_law 492 = .ok (.aload_n 0, 1) := by decide +kernel
theorem dL_law_493 : decode cL_law 493 = .ok (.iload_n 3, 1) := by decide +kernel
theorem dL_law_494 : decode cL_law 494 = .ok (.iconst 1, 1) := by decide +kernel
theorem dL_law_495 : decode cL_law 495 = .ok (.iadd, 1) := by decide +kernel
theorem dL_law_496 : decode cL_law 496 = .ok (.iaload, 1) := by decide +kernel
theorem dL_law_497 : decode cL_law 497 = .ok (.invokevirtual 69, 3) := by decide +kernel
theorem dL_law_500 : decode cL_law 500 = .ok (.if_icmp .eq 242, 3) := by decide +kernel
theorem dL_law_503 : decode cL_law 503 = .ok (.iconst 0, 1) := by decide +kernel
theorem dL_law_504 : decode cL_law 504 = .ok (.ireturn, 1) := by decide +kernel
theorem dL_law_505 : decode cL_law 505 = .ok (.aload_n 1, 1) := by decide +kernel
theorem dL_law_506 : decode cL_law 506 = .ok (.invokevirtual 70, 3) := by decide +kernel
theorem dL_law_509 : decode cL_law 509 = .ok (.aload_n 2, 1) := by decide +kernel
theorem dL_law_510 : decode cL_law 510 = .ok (.invokevirtual 73, 3) := by decide +kernel
theorem dL_law_513 : decode cL_law 513 = .ok (.if_icmp .eq 229, 3) := by decide +kernel
theorem dL_law_516 : decode cL_law 516 = .ok (.iconst 0, 1) := by decide +kernel
theorem dL_law_517 : decode cL_law 517 = .ok (.ireturn, 1) := by decide +kernel
theorem dL_law_518 : decode cL_law 518 = .ok (.aload_n 1, 1) := by decide +kernel
theorem dL_law_519 : decode cL_law 519 = .ok (.aload_n 0, 1) := by decide +kernel
theorem dL_law_520 : decode cL_law 520 = .ok (.iload_n 3, 1) := by decide +kernel
theorem dL_law_521 : decode cL_law 521 = .ok (.iconst 1, 1) := by decide +kernel
theorem dL_law_522 : decode cL_law 522 = .ok (.iadd, 1) := by decide +kernel
theorem dL_law_523 : decode cL_law 523 = .ok (.iaload, 1) := by decide +kernel
theorem dL_law_524 : decode cL_law 524 = .ok (.invokevirtual 74, 3) := by decide +kernel
theorem dL_law_527 : decode cL_law 527 = .ok (.aload_n 2, 1) := by decide +kernel
theorem dL_law_528 : decode cL_law 528 = .ok (.aload_n 0, 1) := by decide +kernel
theorem dL_law_529 : decode cL_law 529 = .ok (.iload_n 3, 1) := by decide +kernel
theorem dL_law_530 : decode cL_law 530 = .ok (.iconst 1, 1) := by decide +kernel
theorem dL_law_531 : decode cL_law 531 = .ok (.iadd, 1) := by decide +kernel
theorem dL_law_532 : decode cL_law 532 = .ok (.iaload, 1) := by decide +kernel
theorem dL_law_533 : decode cL_law 533 = .ok (.invokevirtual 77, 3) := by decide +kernel
theorem dL_law_536 : decode cL_law 536 = .ok (.if_icmp .eq 206, 3) := by decide +kernel
theorem dL_law_539 : decode cL_law 539 = .ok (.iconst 0, 1) := by decide +kernel
theorem dL_law_540 : decode cL_law 540 = .ok (.ireturn, 1) := by decide +kernel
theorem dL_law_541 : decode cL_law 541 = .ok (.aload_n 1, 1) := by decide +kernel
theorem dL_law_542 : decode cL_law 542 = .ok (.aload_n 0, 1) := by decide +kernel
theorem dL_law_543 : decode cL_law 543 = .ok (.iload_n 3, 1) := by decide +kernel
theorem dL_law_544 : decode cL_law 544 = .ok (.iconst 1, 1) := by decide +kernel
theorem dL_law_545 : decode cL_law 545 = .ok (.iadd, 1) := by decide +kernel
theorem dL_law_546 : decode cL_law 546 = .ok (.iaload, 1) := by decide +kernel
theorem dL_law_547 : decode cL_law 547 = .ok (.invokevirtual 78, 3) := by decide +kernel
theorem dL_law_550 : decode cL_law 550 = .ok (.aload_n 2, 1) := by decide +kernel
theorem dL_law_551 : decode cL_law 551 = .ok (.aload_n 0, 1) := by decide +kernel
theorem dL_law_552 : decode cL_law 552 = .ok (.iload_n 3, 1) := by decide +kernel
theorem dL_law_553 : decode cL_law 553 = .ok (.iconst 1, 1) := by decide +kernel
theorem dL_law_554 : decode cL_law 554 = .ok (.iadd, 1) := by decide +kernel
theorem dL_law_555 : decode cL_law 555 = .ok (.iaload, 1) := by decide +kernel
theorem dL_law_556 : decode cL_law 556 = .ok (.invokevirtual 81, 3) := by decide +kernel
theorem dL_law_559 : decode cL_law 559 = .ok (.if_icmp .eq 183, 3) := by decide +kernel
theorem dL_law_562 : decode cL_law 562 = .ok (.iconst 0, 1) := by decide +kernel
theorem dL_law_563 : decode cL_law 563 = .ok (.ireturn, 1) := by decide +kernel
theorem dL_law_564 : decode cL_law 564 = .ok (.aload_n 1, 1) := by decide +kernel
theorem dL_law_565 : decode cL_law 565 = .ok (.aload_n 0, 1) := by decide +kernel
theorem dL_law_566 : decode cL_law 566 = .ok (.iload_n 3, 1) := by decide +kernel
theorem dL_law_567 : decode cL_law 567 = .ok (.iconst 1, 1) := by decide +kernel
theorem dL_law_568 : decode cL_law 568 = .ok (.iadd, 1) := by decide +kernel
theorem dL_law_569 : decode cL_law 569 = .ok (.iaload, 1) := by decide +kernel
theorem dL_law_570 : decode cL_law 570 = .ok (.aload_n 0, 1) := by decide +kernel
theorem dL_law_571 : decode cL_law 571 = .ok (.iload_n 3, 1) := by decide +kernel
theorem dL_law_572 : decode cL_law 572 = .ok (.iconst 2, 1) := by decide +kernel
theorem dL_law_573 : decode cL_law 573 = .ok (.iadd, 1) := by decide +kernel
theorem dL_law_574 : decode cL_law 574 = .ok (.iaload, 1) := by decide +kernel
theorem dL_law_575 : decode cL_law 575 = .ok (.invokevirtual 82, 3) := by decide +kernel
theorem dL_law_578 : decode cL_law 578 = .ok (.aload_n 2, 1) := by decide +kernel
theorem dL_law_579 : decode cL_law 579 = .ok (.aload_n 0, 1) := by decide +kernel
theorem dL_law_580 : decode cL_law 580 = .ok (.iload_n 3, 1) := by decide +kernel
theorem dL_law_581 : decode cL_law 581 = .ok (.iconst 1, 1) := by decide +kernel
theorem dL_law_582 : decode cL_law 582 = .ok (.iadd, 1) := by decide +kernel
theorem dL_law_583 : decode cL_law 583 = .ok (.iaload, 1) := by decide +kernel
theorem dL_law_584 : decode cL_law 584 = .ok (.aload_n 0, 1) := by decide +kernel
theorem dL_law_585 : decode cL_law 585 = .ok (.iload_n 3, 1) := by decide +kernel
theorem dL_law_586 : decode cL_law 586 = .ok (.iconst 2, 1) := by decide +kernel
theorem dL_law_587 : decode cL_law 587 = .ok (.iadd, 1) := by decide +kernel
theorem dL_law_588 : decode cL_law 588 = .ok (.iaload, 1) := by decide +kernel
theorem dL_law_589 : decode cL_law 589 = .ok (.invokevirtual 85, 3) := by decide +kernel
theorem dL_law_592 : decode cL_law 592 = .ok (.if_icmp .eq 150, 3) := by decide +kernel
theorem dL_law_595 : decode cL_law 595 = .ok (.iconst 0, 1) := by decide +kernel
theorem dL_law_596 : decode cL_law 596 = .ok (.ireturn, 1) := by decide +kernel
theorem dL_law_597 : decode cL_law 597 = .ok (.aload_n 1, 1) := by decide +kernel
theorem dL_law_598 : decode cL_law 598 = .ok (.aload_n 0, 1) := by decide +kernel
theorem dL_law_599 : decode cL_law 599 = .ok (.iload_n 3, 1) := by decide +kernel
theorem dL_law_600 : decode cL_law 600 = .ok (.iconst 1, 1) := by decide +kernel
theorem dL_law_601 : decode cL_law 601 = .ok (.iadd, 1) := by decide +kernel
theorem dL_law_602 : decode cL_law 602 = .ok (.iaload, 1) := by decide +kernel
theorem dL_law_603 : decode cL_law 603 = .ok (.aload_n 0, 1) := by decide +kernel
theorem dL_law_604 : decode cL_law 604 = .ok (.iload_n 3, 1) := by decide +kernel
theorem dL_law_605 : decode cL_law 605 = .ok (.iconst 2, 1) := by decide +kernel
theorem dL_law_606 : decode cL_law 606 = .ok (.iadd, 1) := by decide +kernel
theorem dL_law_607 : decode cL_law 607 = .ok (.iaload, 1) := by decide +kernel
theorem dL_law_608 : decode cL_law 608 = .ok (.aload_n 0, 1) := by decide +kernel
theorem dL_law_609 : decode cL_law 609 = .ok (.iload_n 3, 1) := by decide +kernel
theorem dL_law_610 : decode cL_law 610 = .ok (.iconst 3, 1) := by decide +kernel
theorem dL_law_611 : decode cL_law 611 = .ok (.iadd, 1) := by decide +kernel
theorem dL_law_612 : decode cL_law 612 = .ok (.iaload, 1) := by decide +kernel
theorem dL_law_613 : decode cL_law 613 = .ok (.invokevirtual 86, 3) := by decide +kernel
theorem dL_law_616 : decode cL_law 616 = .ok (.aload_n 2, 1) := by decide +kernel
theorem dL_law_617 : decode cL_law 617 = .ok (.aload_n 0, 1) := by decide +kernel
theorem dL_law_618 : decode cL_law 618 = .ok (.iload_n 3, 1) := by decide +kernel
theorem dL_law_619 : decode cL_law 619 = .ok (.iconst 1, 1) := by decide +kernel
theorem dL_law_620 : decode cL_law 620 = .ok (.iadd, 1) := by decide +kernel
theorem dL_law_621 : decode cL_law 621 = .ok (.iaload, 1) := by decide +kernel
theorem dL_law_622 : decode cL_law 622 = .ok (.aload_n 0, 1) := by decide +kernel
theorem dL_law_623 : decode cL_law 623 = .ok (.iload_n 3, 1) := by decide +kernel
theorem dL_law_624 : decode cL_law 624 = .ok (.iconst 2, 1) := by decide +kernel
theorem dL_law_625 : decode cL_law 625 = .ok (.iadd, 1) := by decide +kernel
theorem dL_law_626 : decode cL_law 626 = .ok (.iaload, 1) := by decide +kernel
theorem dL_law_627 : decode cL_law 627 = .ok (.aload_n 0, 1) := by decide +kernel
theorem dL_law_628 : decode cL_law 628 = .ok (.iload_n 3, 1) := by decide +kernel
theorem dL_law_629 : decode cL_law 629 = .ok (.iconst 3, 1) := by decide +kernel
theorem dL_law_630 : decode cL_law 630 = .ok (.iadd, 1) := by decide +kernel
theorem dL_law_631 : decode cL_law 631 = .ok (.iaload, 1) := by decide +kernel
theorem dL_law_632 : decode cL_law 632 = .ok (.invokevirtual 89, 3) := by decide +kernel
theorem dL_law_635 : decode cL_law 635 = .ok (.if_icmp .eq 107, 3) := by decide +kernel
theorem dL_law_638 : decode cL_law 638 = .ok (.iconst 0, 1) := by decide +kernel
theorem dL_law_639 : decode cL_law 639 = .ok (.ireturn, 1) := by decide +kernel
theorem dL_law_640 : decode cL_law 640 = .ok (.aload_n 1, 1) := by decide +kernel
theorem dL_law_641 : decode cL_law 641 = .ok (.aload_n 0, 1) := by decide +kernel
theorem dL_law_642 : decode cL_law 642 = .ok (.iload_n 3, 1) := by decide +kernel
theorem dL_law_643 : decode cL_law 643 = .ok (.iconst 1, 1) := by decide +kernel
theorem dL_law_644 : decode cL_law 644 = .ok (.iadd, 1) := by decide +kernel
theorem dL_law_645 : decode cL_law 645 = .ok (.iaload, 1) := by decide +kernel
theorem dL_law_646 : decode cL_law 646 = .ok (.aload_n 0, 1) := by decide +kernel
theorem dL_law_647 : decode cL_law 647 = .ok (.iload_n 3, 1) := by decide +kernel
theorem dL_law_648 : decode cL_law 648 = .ok (.iconst 2, 1) := by decide +kernel
theorem dL_law_649 : decode cL_law 649 = .ok (.iadd, 1) := by decide +kernel
theorem dL_law_650 : decode cL_law 650 = .ok (.iaload, 1) := by decide +kernel
theorem dL_law_651 : decode cL_law 651 = .ok (.invokevirtual 90, 3) := by decide +kernel
theorem dL_law_654 : decode cL_law 654 = .ok (.aload_n 2, 1) := by decide +kernel
theorem dL_law_655 : decode cL_law 655 = .ok (.aload_n 0, 1) := by decide +kernel
theorem dL_law_656 : decode cL_law 656 = .ok (.iload_n 3, 1) := by decide +kernel
theorem dL_law_657 : decode cL_law 657 = .ok (.iconst 1, 1) := by decide +kernel
theorem dL_law_658 : decode cL_law 658 = .ok (.iadd, 1) := by decide +kernel
theorem dL_law_659 : decode cL_law 659 = .ok (.iaload, 1) := by decide +kernel
theorem dL_law_660 : decode cL_law 660 = .ok (.aload_n 0, 1) := by decide +kernel
theorem dL_law_661 : decode cL_law 661 = .ok (.iload_n 3, 1) := by decide +kernel
theorem dL_law_662 : decode cL_law 662 = .ok (.iconst 2, 1) := by decide +kernel
theorem dL_law_663 : decode cL_law 663 = .ok (.iadd, 1) := by decide +kernel
theorem dL_law_664 : decode cL_law 664 = .ok (.iaload, 1) := by decide +kernel
theorem dL_law_665 : decode cL_law 665 = .ok (.invokevirtual 93, 3) := by decide +kernel
theorem dL_law_668 : decode cL_law 668 = .ok (.if_icmp .eq 74, 3) := by decide +kernel
theorem dL_law_671 : decode cL_law 671 = .ok (.iconst 0, 1) := by decide +kernel
theorem dL_law_672 : decode cL_law 672 = .ok (.ireturn, 1) := by decide +kernel
theorem dL_law_673 : decode cL_law 673 = .ok (.aload_n 1, 1) := by decide +kernel
theorem dL_law_674 : decode cL_law 674 = .ok (.aload_n 0, 1) := by decide +kernel
theorem dL_law_675 : decode cL_law 675 = .ok (.iload_n 3, 1) := by decide +kernel
theorem dL_law_676 : decode cL_law 676 = .ok (.iconst 1, 1) := by decide +kernel
theorem dL_law_677 : decode cL_law 677 = .ok (.iadd, 1) := by decide +kernel
theorem dL_law_678 : decode cL_law 678 = .ok (.iaload, 1) := by decide +kernel
theorem dL_law_679 : decode cL_law 679 = .ok (.invokevirtual 94, 3) := by decide +kernel
theorem dL_law_682 : decode cL_law 682 = .ok (.aload_n 2, 1) := by decide +kernel
theorem dL_law_683 : decode cL_law 683 = .ok (.aload_n 0, 1) := by decide +kernel
theorem dL_law_684 : decode cL_law 684 = .ok (.iload_n 3, 1) := by decide +kernel
theorem dL_law_685 : decode cL_law 685 = .ok (.iconst 1, 1) := by decide +kernel
theorem dL_law_686 : decode cL_law 686 = .ok (.iadd, 1) := by decide +kernel
theorem dL_law_687 : decode cL_law 687 = .ok (.iaload, 1) := by decide +kernel
theorem dL_law_688 : decode cL_law 688 = .ok (.invokevirtual 97, 3) := by decide +kernel
theorem dL_law_691 : decode cL_law 691 = .ok (.if_icmp .eq 51, 3) := by decide +kernel
theorem dL_law_694 : decode cL_law 694 = .ok (.iconst 0, 1) := by decide +kernel
theorem dL_law_695 : decode cL_law 695 = .ok (.ireturn, 1) := by decide +kernel
theorem dL_law_696 : decode cL_law 696 = .ok (.aload_n 1, 1) := by decide +kernel
theorem dL_law_697 : decode cL_law 697 = .ok (.aload_n 0, 1) := by decide +kernel
theorem dL_law_698 : decode cL_law 698 = .ok (.iload_n 3, 1) := by decide +kernel
theorem dL_law_699 : decode cL_law 699 = .ok (.iconst 1, 1) := by decide +kernel
theorem dL_law_700 : decode cL_law 700 = .ok (.iadd, 1) := by decide +kernel
theorem dL_law_701 : decode cL_law 701 = .ok (.iaload, 1) := by decide +kernel
theorem dL_law_702 : decode cL_law 702 = .ok (.invokevirtual 98, 3) := by decide +kernel
theorem dL_law_705 : decode cL_law 705 = .ok (.aload_n 2, 1) := by decide +kernel
theorem dL_law_706 : decode cL_law 706 = .ok (.aload_n 0, 1) := by decide +kernel
theorem dL_law_707 : decode cL_law 707 = .ok (.iload_n 3, 1) := by decide +kernel
theorem dL_law_708 : decode cL_law 708 = .ok (.iconst 1, 1) := by decide +kernel
theorem dL_law_709 : decode cL_law 709 = .ok (.iadd, 1) := by decide +kernel
theorem dL_law_710 : decode cL_law 710 = .ok (.iaload, 1) := by decide +kernel
theorem dL_law_711 : decode cL_law 711 = .ok (.invokevirtual 101, 3) := by decide +kernel
theorem dL_law_714 : decode cL_law 714 = .ok (.if_icmp .eq 28, 3) := by decide +kernel
theorem dL_law_717 : decode cL_law 717 = .ok (.iconst 0, 1) := by decide +kernel
theorem dL_law_718 : decode cL_law 718 = .ok (.ireturn, 1) := by decide +kernel
theorem dL_law_719 : decode cL_law 719 = .ok (.aload_n 1, 1) := by decide +kernel
theorem dL_law_720 : decode cL_law 720 = .ok (.aload_n 0, 1) := by decide +kernel
theorem dL_law_721 : decode cL_law 721 = .ok (.iload_n 3, 1) := by decide +kernel
theorem dL_law_722 : decode cL_law 722 = .ok (.iconst 1, 1) := by decide +kernel
theorem dL_law_723 : decode cL_law 723 = .ok (.iadd, 1) := by decide +kernel
theorem dL_law_724 : decode cL_law 724 = .ok (.iaload, 1) := by decide +kernel
theorem dL_law_725 : decode cL_law 725 = .ok (.invokevirtual 102, 3) := by decide +kernel
theorem dL_law_728 : decode cL_law 728 = .ok (.aload_n 2, 1) := by decide +kernel
theorem dL_law_729 : decode cL_law 729 = .ok (.aload_n 0, 1) := by decide +kernel
theorem dL_law_730 : decode cL_law 730 = .ok (.iload_n 3, 1) := by decide +kernel
theorem dL_law_731 : decode cL_law 731 = .ok (.iconst 1, 1) := by decide +kernel
theorem dL_law_732 : decode cL_law 732 = .ok (.iadd, 1) := by decide +kernel
theorem dL_law_733 : decode cL_law 733 = .ok (.iaload, 1) := by decide +kernel
theorem dL_law_734 : decode cL_law 734 = .ok (.invokevirtual 105, 3) := by decide +kernel
theorem dL_law_737 : decode cL_law 737 = .ok (.if_icmp .eq 5, 3) := by decide +kernel
theorem dL_law_740 : decode cL_law 740 = .ok (.iconst 0, 1) := by decide +kernel
theorem dL_law_741 : decode cL_law 741 = .ok (.ireturn, 1) := by decide +kernel
theorem dL_law_742 : decode cL_law 742 = .ok (.iinc 3 5, 3) := by decide +kernel
theorem dL_law_745 : decode cL_law 745 = .ok (.goto (-727), 3) := by decide +kernel
theorem dL_law_748 : decode cL_law 748 = .ok (.iconst 1, 1) := by decide +kernel
theorem dL_law_749 : decode cL_law 749 = .ok (.ireturn, 1) := by decide +kernel
end
section
def xNF : List (String × Nat × String × String × String) := [(RX2, 25, "HedgeChains$Hedge", "length", "I"), (RX8, 207, "HedgeChains$Hedge", "length", "I"), (RX4, 135, "HedgeChains$Hedge", "length", "I"), (RX5, 48, "HedgeChains$Contract", "made", "Z"), (RX4, 84, "HedgeChains$Contract", "made", "Z"), (RX8, 132, "HedgeChains$Contract", "made", "Z"), (RX4, 88, "HedgeChains$Contract", "price", "I"), (RX8, 232, "HedgeChains$Contract", "price", "I"), (RX5, 57, "HedgeChains$Contract", "lastWeek", "I"), (RX4, 114, "HedgeChains$Contract", "lastWeek", "I"), (RX8, 235, "HedgeChains$Contract", "lastWeek", "I"), (RX8, 142, "HedgeChains$Contract", "fine", "I"), (RX4, 120, "HedgeChains$Contract", "fine", "I"), (RX8, 96, "HedgeChains$Land", "hedges", "[LHedgeChains$Hedge;"), (RX5, 44, "HedgeChains$Land", "contracts", "[LHedgeChains$Contract;"), (RX8, 128, "HedgeChains$Land", "contracts", "[LHedgeChains$Contract;"), (RX8, 57, "HedgeChains$Land", "week", "I"), (RX5, 36, "HedgeChains$Land", "week", "I"), (RX8, 93, "HedgeChains$Land", "work", "I"), (RX8, 84, "HedgeChains$Land", "stakes", "I"), (RX8, 149, "HedgeChains$Land", "purse", "I"), (RX8, 152, "HedgeChains$Land", "debt", "I"), (RX8, 208, "HedgeChains$Land", "earned", "I"), (RX8, 211, "HedgeChains$Land", "fined", "I"), (RX8, 217, "HedgeChains$Land", "laid", "I"), (RX8, 220, "HedgeChains$Land", "planted", "I"), (RX8, 16, "HedgeChains$State", "land", "LHedgeChains$Land;"), (RX8, 171, "HedgeChains$State", "slots", "[LHedgeChains$Land;"), (RX8, 167, "HedgeChains$State", "filled", "[Z"), (RX8, 179, "HedgeChains$History", "kept", "I"), (RX2, 32, "HedgeChains$Text", "length", "I"), (RX8, 185, "HedgeChains$Text", "length", "I"), (RX8, 199, "HedgeChains$HedgeReader", "hedge", "LHedgeChains$Hedge;"), (RX8, 196, "HedgeChains$HedgeReader", "told", "I")]
def xNM : List (String × Nat × MethodName) := [(RX8, 9, yX6_init), (RX6, 11, yX4_init), (RX4, 23, yX1_init), (RX4, 24, yX1_addChains), (RX4, 28, yX0_init), (RX8, 23, yX3_init), (RX3, 17, yX6_init), (RX8, 30, yX7_init), (RX8, 37, yX2_init), (RX2, 11, yX1_init), (RX8, 44, yX5_init), (RX8, 265, yX1_has), (RX8, 63, yX4_isClosed), (RX8, 67, yX4_canLay), (RX4, 73, yX1_isToLay), (RX4, 77, yX1_thicknessOf), (RX8, 70, yX3_keep), (RX3, 25, yX6_copyFrom), (RX6, 26, yX4_copyFrom), (RX4, 48, yX1_copyFrom), (RX4, 52, yX0_copyFrom), (RX8, 74, yX4_layChain), (RX4, 81, yX1_changeChain), (RX4, 101, yX1_numberOf), (RX8, 78, yX4_canCut), (RX4, 95, yX1_isToCut), (RX8, 81, yX4_cutChain), (RX8, 87, yX4_canPlant), (RX4, 98, yX1_kindOf), (RX8, 90, yX4_plantChain), (RX8, 100, yX1_kindOf), (RX8, 106, yX4_grubChain), (RX8, 109, yX4_passWeek), (RX4, 104, yX1_grow), (RX8, 116, yX4_settingOf), (RX8, 119, yX4_changeSetting), (RX8, 125, yX1_numberOf), (RX8, 138, yX0_make), (RX8, 145, yX4_spend), (RX8, 164, yX6_fillSlot), (RX8, 175, yX4_copyFrom), (RX8, 182, yX3_bringBack), (RX8, 188, yX7_addSign), (RX8, 192, yX2_faultOf), (RX2, 35, yX7_signAt), (RX2, 50, yX1_addChains), (RX8, 203, yX4_replaceHedge), (RX8, 214, yX4_numberOfContracts), (RX8, 223, yX6_numberOfSnapshots), (RX8, 226, yX1_longestRunBegin), (RX8, 229, yX1_runFrom), (RX8, 238, yX1_thicknessOf), (RX8, 241, yX1_ageOf), (RX8, 244, yX1_workToLay), (RX8, 247, yX1_stakesToLay), (RX8, 250, yX1_stakesToCut), (RX8, 253, yX4_weeksUntilLaid), (RX8, 256, yX5_reckon), (RX5, 54, yX4_weeksOfWork), (RX4, 141, yX1_workToLay), (RX5, 60, yX4_finePerWeek), (RX8, 259, yX5_leastFines), (RX8, 262, yX5_firstField)]
/-! THE WORLD: places 0 .. NP-1; place p lies at the cell ad p, is of the kind kd p, and holds the numbers G p 0, G p 1 ..; what refers to what is fixed by the kinds (places beside each other) -/
abbrev Mem : Type := Nat → Nat → Int32
def mrow (G : Mem) (p : Nat) (f : Nat → Int32) : Mem := fun q => if q = p then f else G q
def mset (G : Mem) (p j : Nat) (v : Int32) : Mem := mrow G p (upd (G p) j v)
def xT (cy : Nat → ClassId) : List (ClassId × FieldType) := [(cy 0, .int), (cy 1, .boolean), (cy 2, .char), (cy 3, .object RX1), (cy 4, .object RX0), (cy 5, .object RX4), (cy 6, .object RX6)]
def kE (cy : Nat → ClassId) (ad : Nat → Nat) (G : Mem) (k p : Nat) : va_E := match k with
  | 0 => .inr (0, [.int (G p 0), .int (G p 1), .int (G p 2), .int (G p 3)])
  | 1 => .inr (1, [.ref (ad (p + 1)), .ref (ad (p + 2)), .ref (ad (p + 3)), .int (G p 3)])
  | 2 => .inr (2, [.ref (ad (p + 1)), .int (G p 1), .int (G p 2)])
  | 3 => .inr (3, [.ref (ad (p + 1)), .int (G p 1), .int (G p 2)])
  | 4 => .inr (4, [.ref (ad (p + 1)), .ref (ad (p + 2)), .int (G p 2), .int (G p 3), .int (G p 4), .int (G p 5), .int (G p 6), .int (G p 7), .int (G p 8), .int (G p 9), .int (G p 10), .int (G p 11), .int (G p 12), .int (G p 13)])
  | 5 => .inr (5, [.ref (ad (p + 1)), .ref (ad (p + 2)), .ref (ad (p + 3)), .ref (ad (p + 4)), .int (G p 4), .int (G p 5)])
  | 6 => .inr (6, [.ref (ad (p + 1)), .ref (ad (p + 34)), .ref (ad (p + 35))])
  | 7 => .inr (7, [.ref (ad (p + 1)), .int (G p 1)])
  | 8 => .inr (8, [.ref (ad (p + 1)), .ref (ad (p + 2)), .ref (ad (p + 103)), .ref (ad (p + 615)), .ref (ad (p + 617)), .ref (ad (p + 622))])
  | 9 => .inr (9, [.ref (ad (p + 1)), .ref (ad (p + 2)), .ref (ad (p + 3)), .ref (ad (p + 4)), .int (G p 4), .ref (ad (p + 5)), .int (G p 6), .int (G p 7), .int (G p 8), .int (G p 9), .int (G p 10)])
  | 10 => .inl (cy 0, 30, .inl (G p))
  | 11 => .inl (cy 0, 6, .inl (G p))
  | 12 => .inl (cy 0, 64, .inl (G p))
  | 13 => .inl (cy 0, 80, .inl (G p))
  | 14 => .inl (cy 0, 668, .inl (G p))
  | 15 => .inl (cy 0, 3340, .inl (G p))
  | 16 => .inl (cy 1, 2, .inl (G p))
  | 17 => .inl (cy 2, 80, .inl (G p))
  | 18 => .inl (cy 3, 6, .inr (.inr (.inr (.inr (fun i => some (ad (p + 2 + 5 * i)))))))
  | 19 => .inl (cy 4, 6, .inr (.inr (.inr (.inr (fun i => some (ad (p + 5 + 5 * i)))))))
  | 20 => .inl (cy 5, 2, .inr (.inr (.inr (.inr (fun i => some (ad (p + 2 + 33 * i)))))))
  | _ => .inl (cy 6, 5, .inr (.inr (.inr (.inr (fun i => some (ad (p + 1 + 102 * i)))))))
def wo (cy : Nat → ClassId) (ad kd : Nat → Nat) (G : Mem) (NP : Nat) : va_W := (List.range NP).map (fun p => (ad p, kE cy ad G (kd p) p))
def xO (kd : Nat → Nat) (NP k q : Nat) : Prop := q < NP ∧ kd q = k
theorem wo_at {cy : Nat → ClassId} {ad kd : Nat → Nat} {G : Mem} {NP q k : Nat} (h : xO kd NP k q) : (wo cy ad kd G NP)[q]? = some (ad q, kE cy ad G k q) := by
  obtain ⟨h1, h2⟩ := h
  subst h2
  simp [wo, h1]
theorem kE_congr {cy : Nat → ClassId} {ad : Nat → Nat} {G G' : Mem} {k p : Nat} (h : G' p = G p) : kE cy ad G' k p = kE cy ad G k p := by
  unfold kE
  rw [h]
theorem mrow_same {G : Mem} {p : Nat} {f : Nat → Int32} : mrow G p f p = f := if_pos rfl
theorem mrow_ne {G : Mem} {p q : Nat} {f : Nat → Int32} (h : q ≠ p) : mrow G p f q = G q := if_neg h
theorem wo_set {cy : Nat → ClassId} {ad kd : Nat → Nat} {G : Mem} {NP q k : Nat} {f : Nat → Int32} {e : va_E} (h : xO kd NP k q) (he : e = kE cy ad (mrow G q f) k q) : (wo cy ad kd G NP).set q (ad q, e) = wo cy ad kd (mrow G q f) NP := by
  obtain ⟨h1, h2⟩ := h
  subst h2; subst he
  refine List.ext_getElem? fun i => ?_
  by_cases hi : i = q
  · subst hi
    rw [List.getElem?_set_self (by simpa [wo] using h1)]
    simp [wo, h1]
  · rw [List.getElem?_set_ne (Ne.symm hi)]
    by_cases hl : i < NP
    · simp only [wo, List.getElem?_map, List.getElem?_range hl, Option.map_some]
      rw [kE_congr (mrow_ne hi)]
    · have hr : (List.range NP)[i]? = none := by simpa using hl
      simp only [wo, List.getElem?_map, hr, Option.map_none]
theorem wo_D {A : Nat → Prop} {cy : Nat → ClassId} {ad kd : Nat → Nat} {G : Mem} {NP : Nat} (G' : Mem) (h : va_D A (wo cy ad kd G NP)) : va_D A (wo cy ad kd G' NP) := by
  have key : ∀ (k : Nat) (q : Nat × va_E), (wo cy ad kd G' NP)[k]? = some q → ∃ q0, (wo cy ad kd G NP)[k]? = some q0 ∧ q0.1 = q.1 := by
    intro k q hk
    by_cases hl : k < NP
    · simp only [wo, List.getElem?_map, List.getElem?_range hl, Option.map_some] at hk ⊢
      cases hk
      exact ⟨_, rfl, rfl⟩
    · have hr : (List.range NP)[k]? = none := by simpa using hl
      simp only [wo, List.getElem?_map, hr, Option.map_none] at hk
      cases hk
  refine ⟨fun i j x y hi hj hxy => ?_, fun k q hk => ?_⟩
  · obtain ⟨x0, h1, h2⟩ := key i x hi
    obtain ⟨y0, h3, h4⟩ := key j y hj
    exact h.1 i j x0 y0 h1 h3 (h2.trans (hxy.trans h4.symm))
  · obtain ⟨q0, h1, h2⟩ := key k q hk
    rw [← h2]
    exact h.2 k q0 h1
/-! what hangs together: an object and what belongs to it, beside each other -/
abbrev A0 (kd : Nat → Nat) (NP p : Nat) : Prop := xO kd NP 0 p
abbrev A1 (kd : Nat → Nat) (NP p : Nat) : Prop := xO kd NP 1 p ∧ xO kd NP 10 (p + 1) ∧ xO kd NP 10 (p + 2) ∧ xO kd NP 10 (p + 3)
abbrev A2 (kd : Nat → Nat) (NP p : Nat) : Prop := xO kd NP 2 p ∧ A1 kd NP (p + 1)
abbrev A4 (kd : Nat → Nat) (NP p : Nat) : Prop := xO kd NP 4 p ∧ xO kd NP 18 (p + 1) ∧ xO kd NP 19 (p + 2) ∧ (∀ f, f < 6 → A1 kd NP (p + 3 + 5 * f)) ∧ (∀ f, f < 6 → A0 kd NP (p + 7 + 5 * f))
abbrev A5 (kd : Nat → Nat) (NP p : Nat) : Prop := xO kd NP 5 p ∧ xO kd NP 11 (p + 1) ∧ xO kd NP 11 (p + 2) ∧ xO kd NP 11 (p + 3) ∧ xO kd NP 12 (p + 4)
abbrev A6 (kd : Nat → Nat) (NP p : Nat) : Prop := xO kd NP 6 p ∧ A4 kd NP (p + 1) ∧ xO kd NP 20 (p + 34) ∧ xO kd NP 16 (p + 35) ∧ (∀ f, f < 2 → A4 kd NP (p + 36 + 33 * f))
abbrev A3 (kd : Nat → Nat) (NP p : Nat) : Prop := xO kd NP 3 p ∧ xO kd NP 21 (p + 1) ∧ (∀ f, f < 5 → A6 kd NP (p + 2 + 102 * f))
abbrev A7 (kd : Nat → Nat) (NP p : Nat) : Prop := xO kd NP 7 p ∧ xO kd NP 17 (p + 1)
abbrev A8 (kd : Nat → Nat) (NP p : Nat) : Prop := xO kd NP 8 p ∧ A6 kd NP (p + 1) ∧ A3 kd NP (p + 103) ∧ A7 kd NP (p + 615) ∧ A2 kd NP (p + 617) ∧ A5 kd NP (p + 622)
abbrev A9 (kd : Nat → Nat) (NP p : Nat) : Prop := xO kd NP 9 p ∧ xO kd NP 14 (p + 1) ∧ xO kd NP 15 (p + 2) ∧ xO kd NP 14 (p + 3) ∧ xO kd NP 12 (p + 4) ∧ xO kd NP 13 (p + 5)
/-! the nest mates' words -/
def xNs (s : State) : Prop := (∀ q ∈ xNF, va_Nw (.fieldLinkNest q.1 q.2.1 q.2.2.1 q.2.2.2.1 q.2.2.2.2 RX8) s) ∧ (∀ q ∈ xNM, va_Nw (.methodLinkNest q.1 q.2.1 q.2.2 RX8) s)
theorem xNs.warm {s U : State} (hW : s.WarmedH U.vm) (h : xNs s) : xNs U := ⟨fun q hq => va_Nw.warmF hW (h.1 q hq), fun q hq => va_Nw.warmM hW (h.2 q hq)⟩
theorem xNs.same {s U : State} (hW : s.vm = U.vm) (h : xNs s) : xNs U := ⟨fun q hq => va_Nw.same rfl hW (h.1 q hq), fun q hq => va_Nw.same rfl hW (h.2 q hq)⟩
/-! the judgement -/
def xC (p : Program) (s : State) (m : MethodId) (args : Array Value) (meth : Method) (c : Code) (cc : ByteArray) (own : String) (nL : Nat) (rt : Option FieldType) (D : va_G) (cy : Nat → ClassId) : Prop :=
  p.tables.exec = Jvm.exec ∧ c.code = cc ∧ c.maxLocals = nL ∧ s.vm.findClass own = some m.cls ∧ (∀ w ∈ xAllW, w.before args s = true) ∧ va_K D vwCl (xT cy) s ∧ xNs s ∧ meth.sig.returnType = rt ∧ meth.locks = false
def xX (p : Program) (l : Launch) (e : Env) (R : Room) (s : State) (m : MethodId) (args : Array Value) (below : List Frame) (meth : Method) (c : Code) (A : Nat → Prop) (H0 : Heap) (D : va_G) (cy : Nat → ClassId) (ad kd : Nat → Nat) (NP nL cells slots : Nat) (Q : State → Prop) (G : Mem) (pc : Nat) (lv : List (Nat × Value)) (st : List Value) : Prop :=
  ∀ (H : Heap) (locs : List Loc) (ls : Array Slot), va_P D vwCl (wo cy ad kd G NP) H → va_D A (wo cy ad kd G NP) → va_S A H0 H locs → lv_has ls nL lv → W p l e R s m args below meth c H locs cells slots Q (F0 m pc ls st)
def xPre (D : va_G) (cy : Nat → ClassId) (ad kd : Nat → Nat) (NP : Nat) (A : Nat → Prop) (G : Mem) (U : State) : Prop := va_P D vwCl (wo cy ad kd G NP) U.heap ∧ va_D A (wo cy ad kd G NP) ∧ va_K D vwCl (xT cy) U ∧ xNs U
def xR (fr lo : Nat) : Room := { frames := fr, cells := 0, slots := 0, locals := lo }
def xWs (y : MethodName) (b : ByteArray) (n : Nat) (ret : Option FieldType) : List Cond := .code y b n ret :: xAllW
/-- a method's contract: from the memory G to G', the answer r -/
def xMi (l : Launch) (D : va_G) (cy : Nat → ClassId) (ad kd : Nat → Nat) (NP : Nat) (A : Nat → Prop) (y : MethodName) (b : ByteArray) (n : Nat) (ret : Option FieldType) (fr lo : Nat) (as : List Value) (G : Mem) (r : Int32) (G' : Mem) : Prop :=
  Met l y (xWs y b n ret) (xR fr lo) (va_Pc as (xPre D cy ad kd NP A G)) (va_Qi (fun (x : Int32) (_ : Unit) => x = r) (fun _ t => va_P D vwCl (wo cy ad kd G' NP) t.heap) A) 0 0 A
def xMv (l : Launch) (D : va_G) (cy : Nat → ClassId) (ad kd : Nat → Nat) (NP : Nat) (A : Nat → Prop) (y : MethodName) (b : ByteArray) (n : Nat) (ret : Option FieldType) (fr lo : Nat) (as : List Value) (G : Mem) (G' : Mem) : Prop :=
  Met l y (xWs y b n ret) (xR fr lo) (va_Pc as (xPre D cy ad kd NP A G)) (va_Qv (fun (_ : Unit) => True) (fun _ t => va_P D vwCl (wo cy ad kd G' NP) t.heap) A) 0 0 A
def xQi (below : List Frame) (D : va_G) (cy : Nat → ClassId) (ad kd : Nat → Nat) (NP : Nat) (A : Nat → Prop) (args : Array Value) (s : State) (r : Int32) (G' : Mem) : State → Prop := MQ below (va_Qi (fun (x : Int32) (_ : Unit) => x = r) (fun _ t => va_P D vwCl (wo cy ad kd G' NP) t.heap) A) args s 0 0 A
def xQv (below : List Frame) (D : va_G) (cy : Nat → ClassId) (ad kd : Nat → Nat) (NP : Nat) (A : Nat → Prop) (args : Array Value) (s : State) (G' : Mem) : State → Prop := MQ below (va_Qv (fun (_ : Unit) => True) (fun _ t => va_P D vwCl (wo cy ad kd G' NP) t.heap) A) args s 0 0 A
/-! pictures' words: an index looked at, a divisor, a truth, a character; a loop with fuel -/
def ix {α : Type} (i : Int32) (n : Nat) (k : Option α) : Option α := if i < 0 ∨ n ≤ i.toNatClampNeg then none else k
theorem ix_some {α : Type} {i : Int32} {n : Nat} {k : Option α} {r : α} (h : ix i n k = some r) : vp_in i n ∧ k = some r := by
  unfold ix at h
  by_cases hc : i < 0 ∨ n ≤ i.toNatClampNeg
  · rw [if_pos hc] at h; cases h
  · rw [if_neg hc] at h; exact ⟨hc, h⟩
theorem vp_lt {i : Int32} {n : Nat} (h : vp_in i n) : i.toNatClampNeg < n := Nat.not_le.mp fun q => h (Or.inr q)
def nz {α : Type} (i : Int32) (k : Option α) : Option α := if i = 0 then none else k
theorem nz_some {α : Type} {i : Int32} {k : Option α} {r : α} (h : nz i k = some r) : ¬ i = 0 ∧ k = some r := by
  unfold nz at h
  by_cases hc : i = 0
  · rw [if_pos hc] at h; cases h
  · rw [if_neg hc] at h; exact ⟨hc, h⟩
def zk {α : Type} (i : Int32) (k : Option α) : Option α := if i = 0 ∨ i = 1 then k else none
theorem zk_some {α : Type} {i : Int32} {k : Option α} {r : α} (h : zk i k = some r) : (i = 0 ∨ i = 1) ∧ k = some r := by
  unfold zk at h
  by_cases hc : i = 0 ∨ i = 1
  · rw [if_pos hc] at h; exact ⟨hc, h⟩
  · rw [if_neg hc] at h; cases h
def ck {α : Type} (i : Int32) (k : Option α) : Option α := if vp_nar .char i = i then k else none
theorem ck_some {α : Type} {i : Int32} {k : Option α} {r : α} (h : ck i k = some r) : vp_nar .char i = i ∧ k = some r := by
  unfold ck at h
  by_cases hc : vp_nar .char i = i
  · rw [if_pos hc] at h; exact ⟨hc, h⟩
  · rw [if_neg hc] at h; cases h
theorem if_some {α : Type} {c : Prop} [Decidable c] {a b : Option α} {r : α} (h : (if c then a else b) = some r) : (c ∧ a = some r) ∨ (¬ c ∧ b = some r) := by
  by_cases hc : c
  · rw [if_pos hc] at h; exact Or.inl ⟨hc, h⟩
  · rw [if_neg hc] at h; exact Or.inr ⟨hc, h⟩
def itr {σ ρ : Type} : Nat → ((σ → Option ρ) → σ → Option ρ) → σ → Option ρ
  | 0, _, _ => none
  | n + 1, F, s => F (itr n F) s

section
variable {p : Program} {l : Launch} {e : Env} {R : Room} {s : State} {m : MethodId} {args : Array Value} {below : List Frame} {meth : Method} {c : Code} {A : Nat → Prop} {H0 : Heap} {D : va_G} {cy : Nat → ClassId} {ad kd : Nat → Nat} {NP nL cells slots : Nat} {Q : State → Prop} {G : Mem} {pc : Nat} {lv : List (Nat × Value)} {rest : List Value} {cc : ByteArray} {own : String} {rt : Option FieldType}
theorem xiconst (C : xC p s m args meth c cc own nL rt D cy) {n : Int} {v : Int32} (d : decode cc pc = .ok (.iconst n, 1)) (hv : Int32.ofInt n = v) (k : xX p l e R s m args below meth c A H0 D cy ad kd NP nL cells slots Q G (pc + 1) lv (.int v :: rest)) : xX p l e R s m args below meth c A H0 D cy ad kd NP nL cells slots Q G pc lv rest := by
  obtain ⟨hx, hb, hml, hown, hts, hK, hN, hr, hlk⟩ := C
  intro H locs ls hP hD hS hl
  exact lv_iconst hx hb d hv (k H locs ls hP hD hS hl)
theorem xbipush (C : xC p s m args meth c cc own nL rt D cy) {n : Int} {v : Int32} (d : decode cc pc = .ok (.bipush n, 2)) (hv : (Int8.ofInt n).toInt32 = v) (k : xX p l e R s m args below meth c A H0 D cy ad kd NP nL cells slots Q G (pc + 2) lv (.int v :: rest)) : xX p l e R s m args below meth c A H0 D cy ad kd NP nL cells slots Q G pc lv rest := by
  obtain ⟨hx, hb, hml, hown, hts, hK, hN, hr, hlk⟩ := C
  intro H locs ls hP hD hS hl
  exact lv_bipush hx hb d hv (k H locs ls hP hD hS hl)
theorem xsipush (C : xC p s m args meth c cc own nL rt D cy) {n : Int} {v : Int32} (d : decode cc pc = .ok (.sipush n, 3)) (hv : (Int16.ofInt n).toInt32 = v) (k : xX p l e R s m args below meth c A H0 D cy ad kd NP nL cells slots Q G (pc + 3) lv (.int v :: rest)) : xX p l e R s m args below meth c A H0 D cy ad kd NP nL cells slots Q G pc lv rest := by
  obtain ⟨hx, hb, hml, hown, hts, hK, hN, hr, hlk⟩ := C
  intro H locs ls hP hD hS hl
  exact lv_sipush hx hb d hv (k H locs ls hP hD hS hl)
theorem xldc (C : xC p s m args meth c cc own nL rt D cy) {i : Nat} {v : Int32} (hc : Cond.constant own i v ∈ xAllW) (d : decode cc pc = .ok (.ldc i, 2)) (k : xX p l e R s m args below meth c A H0 D cy ad kd NP nL cells slots Q G (pc + 2) lv (.int v :: rest)) : xX p l e R s m args below meth c A H0 D cy ad kd NP nL cells slots Q G pc lv rest := by
  obtain ⟨hx, hb, hml, hown, hts, hK, hN, hr, hlk⟩ := C
  intro H locs ls hP hD hS hl
  exact lv_ldc hx hb hown (hts _ hc) d (k H locs ls hP hD hS hl)
theorem xiload_n (C : xC p s m args meth c cc own nL rt D cy) {k : Fin 4} {i : Nat} {x : Int32} (j : Nat) (hj : lv[j]? = some (i, .int x)) (hi : (k : Nat) = i) (d : decode cc pc = .ok (.iload_n k, 1)) (k : xX p l e R s m args below meth c A H0 D cy ad kd NP nL cells slots Q G (pc + 1) lv (.int x :: rest)) : xX p l e R s m args below meth c A H0 D cy ad kd NP nL cells slots Q G pc lv rest := by
  obtain ⟨hx, hb, hml, hown, hts, hK, hN, hr, hlk⟩ := C
  intro H locs ls hP hD hS hl
  exact lv_iload_n hx hb d hi (lv_at hl j hj) (k H locs ls hP hD hS hl)
theorem xiload (C : xC p s m args meth c cc own nL rt D cy) {i : Nat} {x : Int32} (j : Nat) (hj : lv[j]? = some (i, .int x)) (d : decode cc pc = .ok (.iload i, 2)) (k : xX p l e R s m args below meth c A H0 D cy ad kd NP nL cells slots Q G (pc + 2) lv (.int x :: rest)) : xX p l e R s m args below meth c A H0 D cy ad kd NP nL cells slots Q G pc lv rest := by
  obtain ⟨hx, hb, hml, hown, hts, hK, hN, hr, hlk⟩ := C
  intro H locs ls hP hD hS hl
  exact lv_iload hx hb d (lv_at hl j hj) (k H locs ls hP hD hS hl)
theorem xistore_n (C : xC p s m args meth c cc own nL rt D cy) {k : Fin 4} {i : Nat} {x : Int32} {lv' : List (Nat × Value)} (hi : (k : Nat) = i) (hn : i < nL) (hv : (i, Value.int x) :: lv.filter (fun q => !(q.1 == i) && !(q.1 + 1 == i && q.2.category == 2)) = lv') (d : decode cc pc = .ok (.istore_n k, 1)) (k : xX p l e R s m args below meth c A H0 D cy ad kd NP nL cells slots Q G (pc + 1) lv' rest) : xX p l e R s m args below meth c A H0 D cy ad kd NP nL cells slots Q G pc lv (.int x :: rest) := by
  obtain ⟨hx, hb, hml, hown, hts, hK, hN, hr, hlk⟩ := C
  intro H locs ls hP hD hS hl
  exact lv_istore_n hx hb d hi hl hn hv (fun ls hl => (k H locs ls hP hD hS hl))
theorem xistore (C : xC p s m args meth c cc own nL rt D cy) {i : Nat} {x : Int32} {lv' : List (Nat × Value)} (hn : i < nL) (hv : (i, Value.int x) :: lv.filter (fun q => !(q.1 == i) && !(q.1 + 1 == i && q.2.category == 2)) = lv') (d : decode cc pc = .ok (.istore i, 2)) (k : xX p l e R s m args below meth c A H0 D cy ad kd NP nL cells slots Q G (pc + 2) lv' rest) : xX p l e R s m args below meth c A H0 D cy ad kd NP nL cells slots Q G pc lv (.int x :: rest) := by
  obtain ⟨hx, hb, hml, hown, hts, hK, hN, hr, hlk⟩ := C
  intro H locs ls hP hD hS hl
  exact lv_istore hx hb d hl hn hv (fun ls hl => (k H locs ls hP hD hS hl))
theorem xaload_n (C : xC p s m args meth c cc own nL rt D cy) {k : Fin 4} {i : Nat} {x : Nat} (j : Nat) (hj : lv[j]? = some (i, .ref x)) (hi : (k : Nat) = i) (d : decode cc pc = .ok (.aload_n k, 1)) (k : xX p l e R s m args below meth c A H0 D cy ad kd NP nL cells slots Q G (pc + 1) lv (.ref x :: rest)) : xX p l e R s m args below meth c A H0 D cy ad kd NP nL cells slots Q G pc lv rest := by
  obtain ⟨hx, hb, hml, hown, hts, hK, hN, hr, hlk⟩ := C
  intro H locs ls hP hD hS hl
  exact lv_aload_n hx hb d hi (lv_at hl j hj) (k H locs ls hP hD hS hl)
theorem xaload (C : xC p s m args meth c cc own nL rt D cy) {i : Nat} {x : Nat} (j : Nat) (hj : lv[j]? = some (i, .ref x)) (d : decode cc pc = .ok (.aload i, 2)) (k : xX p l e R s m args below meth c A H0 D cy ad kd NP nL cells slots Q G (pc + 2) lv (.ref x :: rest)) : xX p l e R s m args below meth c A H0 D cy ad kd NP nL cells slots Q G pc lv rest := by
  obtain ⟨hx, hb, hml, hown, hts, hK, hN, hr, hlk⟩ := C
  intro H locs ls hP hD hS hl
  exact lv_aload hx hb d (lv_at hl j hj) (k H locs ls hP hD hS hl)
theorem xastore_n (C : xC p s m args meth c cc own nL rt D cy) {k : Fin 4} {i : Nat} {x : Nat} {lv' : List (Nat × Value)} (hi : (k : Nat) = i) (hn : i < nL) (hv : (i, Value.ref x) :: lv.filter (fun q => !(q.1 == i) && !(q.1 + 1 == i && q.2.category == 2)) = lv') (d : decode cc pc = .ok (.astore_n k, 1)) (k : xX p l e R s m args below meth c A H0 D cy ad kd NP nL cells slots Q G (pc + 1) lv' rest) : xX p l e R s m args below meth c A H0 D cy ad kd NP nL cells slots Q G pc lv (.ref x :: rest) := by
  obtain ⟨hx, hb, hml, hown, hts, hK, hN, hr, hlk⟩ := C
  intro H locs ls hP hD hS hl
  exact lv_astore_n hx hb d hi hl hn hv (fun ls hl => (k H locs ls hP hD hS hl))
theorem xastore (C : xC p s m args meth c cc own nL rt D cy) {i : Nat} {x : Nat} {lv' : List (Nat × Value)} (hn : i < nL) (hv : (i, Value.ref x) :: lv.filter (fun q => !(q.1 == i) && !(q.1 + 1 == i && q.2.category == 2)) = lv') (d : decode cc pc = .ok (.astore i, 2)) (k : xX p l e R s m args below meth c A H0 D cy ad kd NP nL cells slots Q G (pc + 2) lv' rest) : xX p l e R s m args below meth c A H0 D cy ad kd NP nL cells slots Q G pc lv (.ref x :: rest) := by
  obtain ⟨hx, hb, hml, hown, hts, hK, hN, hr, hlk⟩ := C
  intro H locs ls hP hD hS hl
  exact lv_astore hx hb d hl hn hv (fun ls hl => (k H locs ls hP hD hS hl))
theorem xiinc (C : xC p s m args meth c cc own nL rt D cy) {i : Nat} {n : Int} {x v : Int32} {lv' : List (Nat × Value)} (j : Nat) (hj : lv[j]? = some (i, .int x)) (he : x + Int32.ofInt n = v) (hn : i < nL) (hv : (i, Value.int v) :: lv.filter (fun q => !(q.1 == i) && !(q.1 + 1 == i && q.2.category == 2)) = lv') (d : decode cc pc = .ok (.iinc i n, 3)) (k : xX p l e R s m args below meth c A H0 D cy ad kd NP nL cells slots Q G (pc + 3) lv' rest) : xX p l e R s m args below meth c A H0 D cy ad kd NP nL cells slots Q G pc lv rest := by
  obtain ⟨hx, hb, hml, hown, hts, hK, hN, hr, hlk⟩ := C
  intro H locs ls hP hD hS hl
  exact lv_iinc hx hb d hl hj he hn hv (fun ls hl => (k H locs ls hP hD hS hl))
theorem xsub (C : xC p s m args meth c cc own nL rt D cy) {lv' : List (Nat × Value)} (ks : List Nat) (hv : lv_pick lv ks = lv') (k : xX p l e R s m args below meth c A H0 D cy ad kd NP nL cells slots Q G pc lv' rest) : xX p l e R s m args below meth c A H0 D cy ad kd NP nL cells slots Q G pc lv rest := by
  obtain ⟨hx, hb, hml, hown, hts, hK, hN, hr, hlk⟩ := C
  intro H locs ls hP hD hS hl
  exact k H locs ls hP hD hS (lv_sub hl ks hv)
theorem xiadd (C : xC p s m args meth c cc own nL rt D cy) {x y : Int32} (d : decode cc pc = .ok (.iadd, 1)) (k : xX p l e R s m args below meth c A H0 D cy ad kd NP nL cells slots Q G (pc + 1) lv (.int (x + y) :: rest)) : xX p l e R s m args below meth c A H0 D cy ad kd NP nL cells slots Q G pc lv (.int y :: .int x :: rest) := by
  obtain ⟨hx, hb, hml, hown, hts, hK, hN, hr, hlk⟩ := C
  intro H locs ls hP hD hS hl
  exact lv_iadd hx hb d (k H locs ls hP hD hS hl)
theorem xisub (C : xC p s m args meth c cc own nL rt D cy) {x y : Int32} (d : decode cc pc = .ok (.isub, 1)) (k : xX p l e R s m args below meth c A H0 D cy ad kd NP nL cells slots Q G (pc + 1) lv (.int (x - y) :: rest)) : xX p l e R s m args below meth c A H0 D cy ad kd NP nL cells slots Q G pc lv (.int y :: .int x :: rest) := by
  obtain ⟨hx, hb, hml, hown, hts, hK, hN, hr, hlk⟩ := C
  intro H locs ls hP hD hS hl
  exact lv_isub hx hb d (k H locs ls hP hD hS hl)
theorem ximul (C : xC p s m args meth c cc own nL rt D cy) {x y : Int32} (d : decode cc pc = .ok (.imul, 1)) (k : xX p l e R s m args below meth c A H0 D cy ad kd NP nL cells slots Q G (pc + 1) lv (.int (x * y) :: rest)) : xX p l e R s m args below meth c A H0 D cy ad kd NP nL cells slots Q G pc lv (.int y :: .int x :: rest) := by
  obtain ⟨hx, hb, hml, hown, hts, hK, hN, hr, hlk⟩ := C
  intro H locs ls hP hD hS hl
  exact lv_imul hx hb d (k H locs ls hP hD hS hl)
theorem xiand (C : xC p s m args meth c cc own nL rt D cy) {x y : Int32} (d : decode cc pc = .ok (.iand, 1)) (k : xX p l e R s m args below meth c A H0 D cy ad kd NP nL cells slots Q G (pc + 1) lv (.int (x &&& y) :: rest)) : xX p l e R s m args below meth c A H0 D cy ad kd NP nL cells slots Q G pc lv (.int y :: .int x :: rest) := by
  obtain ⟨hx, hb, hml, hown, hts, hK, hN, hr, hlk⟩ := C
  intro H locs ls hP hD hS hl
  exact lv_iand hx hb d (k H locs ls hP hD hS hl)
theorem xior (C : xC p s m args meth c cc own nL rt D cy) {x y : Int32} (d : decode cc pc = .ok (.ior, 1)) (k : xX p l e R s m args below meth c A H0 D cy ad kd NP nL cells slots Q G (pc + 1) lv (.int (x ||| y) :: rest)) : xX p l e R s m args below meth c A H0 D cy ad kd NP nL cells slots Q G pc lv (.int y :: .int x :: rest) := by
  obtain ⟨hx, hb, hml, hown, hts, hK, hN, hr, hlk⟩ := C
  intro H locs ls hP hD hS hl
  exact lv_ior hx hb d (k H locs ls hP hD hS hl)
theorem xixor (C : xC p s m args meth c cc own nL rt D cy) {x y : Int32} (d : decode cc pc = .ok (.ixor, 1)) (k : xX p l e R s m args below meth c A H0 D cy ad kd NP nL cells slots Q G (pc + 1) lv (.int (x ^^^ y) :: rest)) : xX p l e R s m args below meth c A H0 D cy ad kd NP nL cells slots Q G pc lv (.int y :: .int x :: rest) := by
  obtain ⟨hx, hb, hml, hown, hts, hK, hN, hr, hlk⟩ := C
  intro H locs ls hP hD hS hl
  exact lv_ixor hx hb d (k H locs ls hP hD hS hl)
theorem xishl (C : xC p s m args meth c cc own nL rt D cy) {x y : Int32} (d : decode cc pc = .ok (.ishl, 1)) (k : xX p l e R s m args below meth c A H0 D cy ad kd NP nL cells slots Q G (pc + 1) lv (.int (x <<< (y &&& 31)) :: rest)) : xX p l e R s m args below meth c A H0 D cy ad kd NP nL cells slots Q G pc lv (.int y :: .int x :: rest) := by
  obtain ⟨hx, hb, hml, hown, hts, hK, hN, hr, hlk⟩ := C
  intro H locs ls hP hD hS hl
  exact lv_ishl hx hb d (k H locs ls hP hD hS hl)
theorem xishr (C : xC p s m args meth c cc own nL rt D cy) {x y : Int32} (d : decode cc pc = .ok (.ishr, 1)) (k : xX p l e R s m args below meth c A H0 D cy ad kd NP nL cells slots Q G (pc + 1) lv (.int (x >>> (y &&& 31)) :: rest)) : xX p l e R s m args below meth c A H0 D cy ad kd NP nL cells slots Q G pc lv (.int y :: .int x :: rest) := by
  obtain ⟨hx, hb, hml, hown, hts, hK, hN, hr, hlk⟩ := C
  intro H locs ls hP hD hS hl
  exact lv_ishr hx hb d (k H locs ls hP hD hS hl)
theorem xidiv (C : xC p s m args meth c cc own nL rt D cy) {x y : Int32} (d : decode cc pc = .ok (.idiv, 1)) (hne : ¬ y = 0) (k : xX p l e R s m args below meth c A H0 D cy ad kd NP nL cells slots Q G (pc + 1) lv (.int (x / y) :: rest)) : xX p l e R s m args below meth c A H0 D cy ad kd NP nL cells slots Q G pc lv (.int y :: .int x :: rest) := by
  obtain ⟨hx, hb, hml, hown, hts, hK, hN, hr, hlk⟩ := C
  intro H locs ls hP hD hS hl
  exact lv_idiv hx hb d hne (k H locs ls hP hD hS hl)
theorem xirem (C : xC p s m args meth c cc own nL rt D cy) {x y : Int32} (d : decode cc pc = .ok (.irem, 1)) (hne : ¬ y = 0) (k : xX p l e R s m args below meth c A H0 D cy ad kd NP nL cells slots Q G (pc + 1) lv (.int (x - x / y * y) :: rest)) : xX p l e R s m args below meth c A H0 D cy ad kd NP nL cells slots Q G pc lv (.int y :: .int x :: rest) := by
  obtain ⟨hx, hb, hml, hown, hts, hK, hN, hr, hlk⟩ := C
  intro H locs ls hP hD hS hl
  exact lv_irem hx hb d hne (k H locs ls hP hD hS hl)
theorem xi2c (C : xC p s m args meth c cc own nL rt D cy) {x : Int32} (d : decode cc pc = .ok (.i2c, 1)) (k : xX p l e R s m args below meth c A H0 D cy ad kd NP nL cells slots Q G (pc + 1) lv (.int ((x.toUInt32 % 65536).toInt32) :: rest)) : xX p l e R s m args below meth c A H0 D cy ad kd NP nL cells slots Q G pc lv (.int x :: rest) := by
  obtain ⟨hx, hb, hml, hown, hts, hK, hN, hr, hlk⟩ := C
  intro H locs ls hP hD hS hl
  exact lv_i2c hx hb d rfl (k H locs ls hP hD hS hl)
theorem xdup (C : xC p s m args meth c cc own nL rt D cy) {va : Value} (d : decode cc pc = .ok (.dup, 1)) (hc : va.category = 1) (k : xX p l e R s m args below meth c A H0 D cy ad kd NP nL cells slots Q G (pc + 1) lv (va :: va :: rest)) : xX p l e R s m args below meth c A H0 D cy ad kd NP nL cells slots Q G pc lv (va :: rest) := by
  obtain ⟨hx, hb, hml, hown, hts, hK, hN, hr, hlk⟩ := C
  intro H locs ls hP hD hS hl
  exact lv_dup hx hb d hc (k H locs ls hP hD hS hl)
theorem xpop (C : xC p s m args meth c cc own nL rt D cy) {va : Value} (d : decode cc pc = .ok (.pop, 1)) (hc : va.category = 1) (k : xX p l e R s m args below meth c A H0 D cy ad kd NP nL cells slots Q G (pc + 1) lv rest) : xX p l e R s m args below meth c A H0 D cy ad kd NP nL cells slots Q G pc lv (va :: rest) := by
  obtain ⟨hx, hb, hml, hown, hts, hK, hN, hr, hlk⟩ := C
  intro H locs ls hP hD hS hl
  exact lv_pop hx hb d hc (k H locs ls hP hD hS hl)
theorem xdup2 (C : xC p s m args meth c cc own nL rt D cy) {va vb : Value} (d : decode cc pc = .ok (.dup2, 1)) (hc : va.category = 1) (hc2 : vb.category = 1) (k : xX p l e R s m args below meth c A H0 D cy ad kd NP nL cells slots Q G (pc + 1) lv (va :: vb :: va :: vb :: rest)) : xX p l e R s m args below meth c A H0 D cy ad kd NP nL cells slots Q G pc lv (va :: vb :: rest) := by
  obtain ⟨hx, hb, hml, hown, hts, hK, hN, hr, hlk⟩ := C
  intro H locs ls hP hD hS hl
  exact lv_dup2_11 hx hb d hc hc2 (k H locs ls hP hD hS hl)
theorem xgoto (C : xC p s m args meth c cc own nL rt D cy) {off : Int} {tgt : Nat} (ht : (pc : Int) + off = (tgt : Int)) (d : decode cc pc = .ok (.goto off, 3)) (k : xX p l e R s m args below meth c A H0 D cy ad kd NP nL cells slots Q G tgt lv rest) : xX p l e R s m args below meth c A H0 D cy ad kd NP nL cells slots Q G pc lv rest := by
  obtain ⟨hx, hb, hml, hown, hts, hK, hN, hr, hlk⟩ := C
  intro H locs ls hP hD hS hl
  exact lv_goto hx hb d ht (k H locs ls hP hD hS hl)
theorem xif_eq (C : xC p s m args meth c cc own nL rt D cy) {x : Int32} {off : Int} {tgt : Nat} {α : Type} {a b : Option α} {r : α} (h : (if x = 0 then a else b) = some r) (ht : (pc : Int) + off = (tgt : Int)) (d : decode cc pc = .ok (.ifCond .eq off, 3)) (kt : a = some r → xX p l e R s m args below meth c A H0 D cy ad kd NP nL cells slots Q G tgt lv rest) (kf : b = some r → xX p l e R s m args below meth c A H0 D cy ad kd NP nL cells slots Q G (pc + 3) lv rest) : xX p l e R s m args below meth c A H0 D cy ad kd NP nL cells slots Q G pc lv (.int x :: rest) := by
  obtain ⟨hx, hb, hml, hown, hts, hK, hN, hr, hlk⟩ := C
  intro H locs ls hP hD hS hl
  exact lv_if_eq hx hb d ht (fun hc => kt (by rwa [if_pos hc] at h) H locs ls hP hD hS hl) (fun hc => kf (by rwa [if_neg hc] at h) H locs ls hP hD hS hl)
theorem xicmp_eq (C : xC p s m args meth c cc own nL rt D cy) {x y : Int32} {off : Int} {tgt : Nat} {α : Type} {a b : Option α} {r : α} (h : (if x = y then a else b) = some r) (ht : (pc : Int) + off = (tgt : Int)) (d : decode cc pc = .ok (.if_icmp .eq off, 3)) (kt : a = some r → xX p l e R s m args below meth c A H0 D cy ad kd NP nL cells slots Q G tgt lv rest) (kf : b = some r → xX p l e R s m args below meth c A H0 D cy ad kd NP nL cells slots Q G (pc + 3) lv rest) : xX p l e R s m args below meth c A H0 D cy ad kd NP nL cells slots Q G pc lv (.int y :: .int x :: rest) := by
  obtain ⟨hx, hb, hml, hown, hts, hK, hN, hr, hlk⟩ := C
  intro H locs ls hP hD hS hl
  exact lv_icmp_eq hx hb d ht (fun hc => kt (by rwa [if_pos hc] at h) H locs ls hP hD hS hl) (fun hc => kf (by rwa [if_neg hc] at h) H locs ls hP hD hS hl)
theorem xif_ne (C : xC p s m args meth c cc own nL rt D cy) {x : Int32} {off : Int} {tgt : Nat} {α : Type} {a b : Option α} {r : α} (h : (if x = 0 then a else b) = some r) (ht : (pc : Int) + off = (tgt : Int)) (d : decode cc pc = .ok (.ifCond .ne off, 3)) (kf : a = some r → xX p l e R s m args below meth c A H0 D cy ad kd NP nL cells slots Q G (pc + 3) lv rest) (kt : b = some r → xX p l e R s m args below meth c A H0 D cy ad kd NP nL cells slots Q G tgt lv rest) : xX p l e R s m args below meth c A H0 D cy ad kd NP nL cells slots Q G pc lv (.int x :: rest) := by
  obtain ⟨hx, hb, hml, hown, hts, hK, hN, hr, hlk⟩ := C
  intro H locs ls hP hD hS hl
  exact lv_if_ne hx hb d ht (fun hc => kt (by rwa [if_neg hc] at h) H locs ls hP hD hS hl) (fun hc => kf (by rwa [if_pos hc] at h) H locs ls hP hD hS hl)
theorem xicmp_ne (C : xC p s m args meth c cc own nL rt D cy) {x y : Int32} {off : Int} {tgt : Nat} {α : Type} {a b : Option α} {r : α} (h : (if x = y then a else b) = some r) (ht : (pc : Int) + off = (tgt : Int)) (d : decode cc pc = .ok (.if_icmp .ne off, 3)) (kf : a = some r → xX p l e R s m args below meth c A H0 D cy ad kd NP nL cells slots Q G (pc + 3) lv rest) (kt : b = some r → xX p l e R s m args below meth c A H0 D cy ad kd NP nL cells slots Q G tgt lv rest) : xX p l e R s m args below meth c A H0 D cy ad kd NP nL cells slots Q G pc lv (.int y :: .int x :: rest) := by
  obtain ⟨hx, hb, hml, hown, hts, hK, hN, hr, hlk⟩ := C
  intro H locs ls hP hD hS hl
  exact lv_icmp_ne hx hb d ht (fun hc => kt (by rwa [if_neg hc] at h) H locs ls hP hD hS hl) (fun hc => kf (by rwa [if_pos hc] at h) H locs ls hP hD hS hl)
theorem xif_lt (C : xC p s m args meth c cc own nL rt D cy) {x : Int32} {off : Int} {tgt : Nat} {α : Type} {a b : Option α} {r : α} (h : (if x < 0 then a else b) = some r) (ht : (pc : Int) + off = (tgt : Int)) (d : decode cc pc = .ok (.ifCond .lt off, 3)) (kt : a = some r → xX p l e R s m args below meth c A H0 D cy ad kd NP nL cells slots Q G tgt lv rest) (kf : b = some r → xX p l e R s m args below meth c A H0 D cy ad kd NP nL cells slots Q G (pc + 3) lv rest) : xX p l e R s m args below meth c A H0 D cy ad kd NP nL cells slots Q G pc lv (.int x :: rest) := by
  obtain ⟨hx, hb, hml, hown, hts, hK, hN, hr, hlk⟩ := C
  intro H locs ls hP hD hS hl
  exact lv_if_lt hx hb d ht (fun hc => kt (by rwa [if_pos hc] at h) H locs ls hP hD hS hl) (fun hc => kf (by rwa [if_neg hc] at h) H locs ls hP hD hS hl)
theorem xicmp_lt (C : xC p s m args meth c cc own nL rt D cy) {x y : Int32} {off : Int} {tgt : Nat} {α : Type} {a b : Option α} {r : α} (h : (if x < y then a else b) = some r) (ht : (pc : Int) + off = (tgt : Int)) (d : decode cc pc = .ok (.if_icmp .lt off, 3)) (kt : a = some r → xX p l e R s m args below meth c A H0 D cy ad kd NP nL cells slots Q G tgt lv rest) (kf : b = some r → xX p l e R s m args below meth c A H0 D cy ad kd NP nL cells slots Q G (pc + 3) lv rest) : xX p l e R s m args below meth c A H0 D cy ad kd NP nL cells slots Q G pc lv (.int y :: .int x :: rest) := by
  obtain ⟨hx, hb, hml, hown, hts, hK, hN, hr, hlk⟩ := C
  intro H locs ls hP hD hS hl
  exact lv_icmp_lt hx hb d ht (fun hc => kt (by rwa [if_pos hc] at h) H locs ls hP hD hS hl) (fun hc => kf (by rwa [if_neg hc] at h) H locs ls hP hD hS hl)
theorem xif_ge (C : xC p s m args meth c cc own nL rt D cy) {x : Int32} {off : Int} {tgt : Nat} {α : Type} {a b : Option α} {r : α} (h : (if 0 ≤ x then a else b) = some r) (ht : (pc : Int) + off = (tgt : Int)) (d : decode cc pc = .ok (.ifCond .ge off, 3)) (kt : a = some r → xX p l e R s m args below meth c A H0 D cy ad kd NP nL cells slots Q G tgt lv rest) (kf : b = some r → xX p l e R s m args below meth c A H0 D cy ad kd NP nL cells slots Q G (pc + 3) lv rest) : xX p l e R s m args below meth c A H0 D cy ad kd NP nL cells slots Q G pc lv (.int x :: rest) := by
  obtain ⟨hx, hb, hml, hown, hts, hK, hN, hr, hlk⟩ := C
  intro H locs ls hP hD hS hl
  exact lv_if_ge hx hb d ht (fun hc => kt (by rwa [if_pos hc] at h) H locs ls hP hD hS hl) (fun hc => kf (by rwa [if_neg hc] at h) H locs ls hP hD hS hl)
theorem xicmp_ge (C : xC p s m args meth c cc own nL rt D cy) {x y : Int32} {off : Int} {tgt : Nat} {α : Type} {a b : Option α} {r : α} (h : (if y ≤ x then a else b) = some r) (ht : (pc : Int) + off = (tgt : Int)) (d : decode cc pc = .ok (.if_icmp .ge off, 3)) (kt : a = some r → xX p l e R s m args below meth c A H0 D cy ad kd NP nL cells slots Q G tgt lv rest) (kf : b = some r → xX p l e R s m args below meth c A H0 D cy ad kd NP nL cells slots Q G (pc + 3) lv rest) : xX p l e R s m args below meth c A H0 D cy ad kd NP nL cells slots Q G pc lv (.int y :: .int x :: rest) := by
  obtain ⟨hx, hb, hml, hown, hts, hK, hN, hr, hlk⟩ := C
  intro H locs ls hP hD hS hl
  exact lv_icmp_ge hx hb d ht (fun hc => kt (by rwa [if_pos hc] at h) H locs ls hP hD hS hl) (fun hc => kf (by rwa [if_neg hc] at h) H locs ls hP hD hS hl)
theorem xif_gt (C : xC p s m args meth c cc own nL rt D cy) {x : Int32} {off : Int} {tgt : Nat} {α : Type} {a b : Option α} {r : α} (h : (if 0 < x then a else b) = some r) (ht : (pc : Int) + off = (tgt : Int)) (d : decode cc pc = .ok (.ifCond .gt off, 3)) (kt : a = some r → xX p l e R s m args below meth c A H0 D cy ad kd NP nL cells slots Q G tgt lv rest) (kf : b = some r → xX p l e R s m args below meth c A H0 D cy ad kd NP nL cells slots Q G (pc + 3) lv rest) : xX p l e R s m args below meth c A H0 D cy ad kd NP nL cells slots Q G pc lv (.int x :: rest) := by
  obtain ⟨hx, hb, hml, hown, hts, hK, hN, hr, hlk⟩ := C
  intro H locs ls hP hD hS hl
  exact lv_if_gt hx hb d ht (fun hc => kt (by rwa [if_pos hc] at h) H locs ls hP hD hS hl) (fun hc => kf (by rwa [if_neg hc] at h) H locs ls hP hD hS hl)
theorem xicmp_gt (C : xC p s m args meth c cc own nL rt D cy) {x y : Int32} {off : Int} {tgt : Nat} {α : Type} {a b : Option α} {r : α} (h : (if y < x then a else b) = some r) (ht : (pc : Int) + off = (tgt : Int)) (d : decode cc pc = .ok (.if_icmp .gt off, 3)) (kt : a = some r → xX p l e R s m args below meth c A H0 D cy ad kd NP nL cells slots Q G tgt lv rest) (kf : b = some r → xX p l e R s m args below meth c A H0 D cy ad kd NP nL cells slots Q G (pc + 3) lv rest) : xX p l e R s m args below meth c A H0 D cy ad kd NP nL cells slots Q G pc lv (.int y :: .int x :: rest) := by
  obtain ⟨hx, hb, hml, hown, hts, hK, hN, hr, hlk⟩ := C
  intro H locs ls hP hD hS hl
  exact lv_icmp_gt hx hb d ht (fun hc => kt (by rwa [if_pos hc] at h) H locs ls hP hD hS hl) (fun hc => kf (by rwa [if_neg hc] at h) H locs ls hP hD hS hl)
theorem xif_le (C : xC p s m args meth c cc own nL rt D cy) {x : Int32} {off : Int} {tgt : Nat} {α : Type} {a b : Option α} {r : α} (h : (if x ≤ 0 then a else b) = some r) (ht : (pc : Int) + off = (tgt : Int)) (d : decode cc pc = .ok (.ifCond .le off, 3)) (kt : a = some r → xX p l e R s m args below meth c A H0 D cy ad kd NP nL cells slots Q G tgt lv rest) (kf : b = some r → xX p l e R s m args below meth c A H0 D cy ad kd NP nL cells slots Q G (pc + 3) lv rest) : xX p l e R s m args below meth c A H0 D cy ad kd NP nL cells slots Q G pc lv (.int x :: rest) := by
  obtain ⟨hx, hb, hml, hown, hts, hK, hN, hr, hlk⟩ := C
  intro H locs ls hP hD hS hl
  exact lv_if_le hx hb d ht (fun hc => kt (by rwa [if_pos hc] at h) H locs ls hP hD hS hl) (fun hc => kf (by rwa [if_neg hc] at h) H locs ls hP hD hS hl)
theorem xicmp_le (C : xC p s m args meth c cc own nL rt D cy) {x y : Int32} {off : Int} {tgt : Nat} {α : Type} {a b : Option α} {r : α} (h : (if x ≤ y then a else b) = some r) (ht : (pc : Int) + off = (tgt : Int)) (d : decode cc pc = .ok (.if_icmp .le off, 3)) (kt : a = some r → xX p l e R s m args below meth c A H0 D cy ad kd NP nL cells slots Q G tgt lv rest) (kf : b = some r → xX p l e R s m args below meth c A H0 D cy ad kd NP nL cells slots Q G (pc + 3) lv rest) : xX p l e R s m args below meth c A H0 D cy ad kd NP nL cells slots Q G pc lv (.int y :: .int x :: rest) := by
  obtain ⟨hx, hb, hml, hown, hts, hK, hN, hr, hlk⟩ := C
  intro H locs ls hP hD hS hl
  exact lv_icmp_le hx hb d ht (fun hc => kt (by rwa [if_pos hc] at h) H locs ls hP hD hS hl) (fun hc => kf (by rwa [if_neg hc] at h) H locs ls hP hD hS hl)
theorem xtab (C : xC p s m args meth c cc own nL rt D cy) {dflt lo hi : Int} {offs : Array Int} {len : Nat} {x : Int32} {off : Int} {tgt : Nat} (v : Int32) (hxv : x = v) (h1 : ¬ v.toInt < lo) (h2 : ¬ hi < v.toInt) (ho : offs[(v.toInt - lo).toNat]? = some off) (ht : (pc : Int) + off = (tgt : Int)) (d : decode cc pc = .ok (.tableswitch dflt lo hi offs, len)) (k : xX p l e R s m args below meth c A H0 D cy ad kd NP nL cells slots Q G tgt lv rest) : xX p l e R s m args below meth c A H0 D cy ad kd NP nL cells slots Q G pc lv (.int x :: rest) := by
  obtain ⟨hx, hb, hml, hown, hts, hK, hN, hr, hlk⟩ := C
  intro H locs ls hP hD hS hl
  subst hxv
  exact lv_tableIn hx hb d h1 h2 ho ht (k H locs ls hP hD hS hl)
theorem xtabOut (C : xC p s m args meth c cc own nL rt D cy) {dflt lo hi : Int} {offs : Array Int} {len : Nat} {x : Int32} {tgt : Nat} (h : x.toInt < lo ∨ hi < x.toInt) (ht : (pc : Int) + dflt = (tgt : Int)) (d : decode cc pc = .ok (.tableswitch dflt lo hi offs, len)) (k : xX p l e R s m args below meth c A H0 D cy ad kd NP nL cells slots Q G tgt lv rest) : xX p l e R s m args below meth c A H0 D cy ad kd NP nL cells slots Q G pc lv (.int x :: rest) := by
  obtain ⟨hx, hb, hml, hown, hts, hK, hN, hr, hlk⟩ := C
  intro H locs ls hP hD hS hl
  exact lv_tableOut hx hb d h ht (k H locs ls hP hD hS hl)
theorem xlook (C : xC p s m args meth c cc own nL rt D cy) {dflt : Int} {ps : Array (Int × Int)} {len : Nat} {x : Int32} {off : Int} {tgt : Nat} (hp : (ps.toList.zip (ps.toList.drop 1)).all (fun (a, next) => a.1 < next.1) = true) (ho : Op.lookupswitch.offset ps.toList dflt x.toInt = off) (ht : (pc : Int) + off = (tgt : Int)) (d : decode cc pc = .ok (.lookupswitch dflt ps, len)) (k : xX p l e R s m args below meth c A H0 D cy ad kd NP nL cells slots Q G tgt lv rest) : xX p l e R s m args below meth c A H0 D cy ad kd NP nL cells slots Q G pc lv (.int x :: rest) := by
  obtain ⟨hx, hb, hml, hown, hts, hK, hN, hr, hlk⟩ := C
  intro H locs ls hP hD hS hl
  exact lv_lookup hx hb d hp ho ht (k H locs ls hP hD hS hl)
theorem xne {x v : Int32} (h : ¬ x = v) (k : Int) (hk : v.toInt = k) : x.toInt ≠ k := fun q => h (Int32.toInt_inj.mp (q.trans hk.symm))
theorem xgetB (C : xC p s m args meth c cc own nL rt D cy) {q ci : Nat} {fs : List Value} {CN : String} {T : u_T} {N : Nat} {v : Value} {index : Nat} (ho : xO kd NP ci q) (he : kE cy ad G ci q = .inr (ci, fs)) (hc : vwCl[ci]? = some (CN, T, N)) (hin : ∀ w ∈ u_ws CN T N, w ∈ xAllW) (f : Nat) (hf : f < N) (hv : fs[f]? = some v) (hlink : Cond.fieldLink own index (T f).1 (T f).2.1 (T f).2.2.1 ∈ xAllW) (d : decode cc pc = .ok (.getfield index, 3)) (k : xX p l e R s m args below meth c A H0 D cy ad kd NP nL cells slots Q G (pc + 3) lv (v :: rest)) : xX p l e R s m args below meth c A H0 D cy ad kd NP nL cells slots Q G pc lv (.ref (ad q) :: rest) := by
  obtain ⟨hx, hb, hml, hown, hts, hK, hN, hr, hlk⟩ := C
  intro H locs ls hP hD hS hl
  exact va_get (D := D) (cl := vwCl) (ci := ci) (v := v) (C := CN) (T := T) (N := N) hx hb hts hin hown hK hP q (by rw [wo_at ho, he]) hc f hf (hts _ hlink) (fun _ h9 => h9) hv d (k H locs ls hP hD hS hl)
theorem xgetBN (C : xC p s m args meth c cc own nL rt D cy) {q ci : Nat} {fs : List Value} {CN : String} {T : u_T} {N : Nat} {v : Value} {index : Nat} (ho : xO kd NP ci q) (he : kE cy ad G ci q = .inr (ci, fs)) (hc : vwCl[ci]? = some (CN, T, N)) (hin : ∀ w ∈ u_ws CN T N, w ∈ xAllW) (f : Nat) (hf : f < N) (hv : fs[f]? = some v) (hlink : (own, index, (T f).1, (T f).2.1, (T f).2.2.1) ∈ xNF) (d : decode cc pc = .ok (.getfield index, 3)) (k : xX p l e R s m args below meth c A H0 D cy ad kd NP nL cells slots Q G (pc + 3) lv (v :: rest)) : xX p l e R s m args below meth c A H0 D cy ad kd NP nL cells slots Q G pc lv (.ref (ad q) :: rest) := by
  obtain ⟨hx, hb, hml, hown, hts, hK, hN, hr, hlk⟩ := C
  intro H locs ls hP hD hS hl
  exact va_getN (D := D) (cl := vwCl) (ci := ci) (v := v) (C := CN) (T := T) (N := N) (host := RX8) hx hb hts hin hown hK hP q (by rw [wo_at ho, he]) hc f hf (va_Nw.use rfl (hN.1 _ hlink)) (fun _ h9 => h9) hv d (k H locs ls hP hD hS hl)
theorem xputB (C : xC p s m args meth c cc own nL rt D cy) {q ci : Nat} {fs : List Value} {CN : String} {T : u_T} {N : Nat} {v : Int32} {index : Nat} (ho : xO kd NP ci q) (he : kE cy ad G ci q = .inr (ci, fs)) (hc : vwCl[ci]? = some (CN, T, N)) (hin : ∀ w ∈ u_ws CN T N, w ∈ xAllW) (ty0 : Nat → FieldType) (hty : ∀ k, k < N → parseFieldDescriptor (T k).2.2.1 = some (ty0 k)) (hnm : ∀ a, a < N → ∀ b, b < N → a ≠ b → (T a).2.1 ≠ (T b).2.1) (f : Nat) (hf : f < N) (hfs : f < fs.length) (hfin : (T f).2.2.2 = false) {ty : FieldType} (hd : parseFieldDescriptor (T f).2.2.1 = some ty) (hn : narrow ty (.int v) = .int v) (hfit : fits ty (.int v) = true) (he1 : (.inr (ci, fs.set f (.int v)) : va_E) = kE cy ad (mset G q f v) ci q) (hlink : Cond.fieldLink own index (T f).1 (T f).2.1 (T f).2.2.1 ∈ xAllW) (d : decode cc pc = .ok (.putfield index, 3)) (k : xX p l e R s m args below meth c A H0 D cy ad kd NP nL cells slots Q (mset G q f v) (pc + 3) lv rest) : xX p l e R s m args below meth c A H0 D cy ad kd NP nL cells slots Q G pc lv (.int v :: .ref (ad q) :: rest) := by
  obtain ⟨hx, hb, hml, hown, hts, hK, hN, hr, hlk⟩ := C
  intro H locs ls hP hD hS hl
  refine va_put (D := D) (cl := vwCl) (ci := ci) (v := .int v) (ty := ty) (C := CN) (T := T) (N := N) hx hb hts hin ty0 hty hnm hown hK hP hD hS q (by rw [wo_at ho, he]) hc f hf (hts _ hlink) (fun _ h9 => h9) hfin hd hn hfit hfs d (fun H1 locs1 hP1 hD1 hS1 => ?_)
  rw [wo_set ho he1] at hP1 hD1
  exact k H1 locs1 ls hP1 hD1 hS1 hl
theorem xputBN (C : xC p s m args meth c cc own nL rt D cy) {q ci : Nat} {fs : List Value} {CN : String} {T : u_T} {N : Nat} {v : Int32} {index : Nat} (ho : xO kd NP ci q) (he : kE cy ad G ci q = .inr (ci, fs)) (hc : vwCl[ci]? = some (CN, T, N)) (hin : ∀ w ∈ u_ws CN T N, w ∈ xAllW) (ty0 : Nat → FieldType) (hty : ∀ k, k < N → parseFieldDescriptor (T k).2.2.1 = some (ty0 k)) (hnm : ∀ a, a < N → ∀ b, b < N → a ≠ b → (T a).2.1 ≠ (T b).2.1) (f : Nat) (hf : f < N) (hfs : f < fs.length) (hfin : (T f).2.2.2 = false) {ty : FieldType} (hd : parseFieldDescriptor (T f).2.2.1 = some ty) (hn : narrow ty (.int v) = .int v) (hfit : fits ty (.int v) = true) (he1 : (.inr (ci, fs.set f (.int v)) : va_E) = kE cy ad (mset G q f v) ci q) (hlink : (own, index, (T f).1, (T f).2.1, (T f).2.2.1) ∈ xNF) (d : decode cc pc = .ok (.putfield index, 3)) (k : xX p l e R s m args below meth c A H0 D cy ad kd NP nL cells slots Q (mset G q f v) (pc + 3) lv rest) : xX p l e R s m args below meth c A H0 D cy ad kd NP nL cells slots Q G pc lv (.int v :: .ref (ad q) :: rest) := by
  obtain ⟨hx, hb, hml, hown, hts, hK, hN, hr, hlk⟩ := C
  intro H locs ls hP hD hS hl
  refine va_putN (D := D) (cl := vwCl) (ci := ci) (v := .int v) (ty := ty) (C := CN) (T := T) (N := N) (host := RX8) hx hb hts hin ty0 hty hnm hown hK hP hD hS q (by rw [wo_at ho, he]) hc f hf (va_Nw.use rfl (hN.1 _ hlink)) (fun _ h9 => h9) hfin hd hn hfit hfs d (fun H1 locs1 hP1 hD1 hS1 => ?_)
  rw [wo_set ho he1] at hP1 hD1
  exact k H1 locs1 ls hP1 hD1 hS1 hl
theorem xz_nar {v : Int32} (h : v = 0 ∨ v = 1) : narrow .boolean (.int v) = .int v := by rcases h with rfl | rfl <;> rfl
theorem xz_fit {v : Int32} (h : v = 0 ∨ v = 1) : fits .boolean (.int v) = true := by rcases h with rfl | rfl <;> rfl
theorem xg_0_made (C : xC p s m args meth c cc own nL rt D cy) {q index : Nat} (ho : xO kd NP 0 q) (hlink : Cond.fieldLink own index "HedgeChains$Contract" "made" "Z" ∈ xAllW) (d : decode cc pc = .ok (.getfield index, 3)) (k : xX p l e R s m args below meth c A H0 D cy ad kd NP nL cells slots Q G (pc + 3) lv (.int (G q 0) :: rest)) : xX p l e R s m args below meth c A H0 D cy ad kd NP nL cells slots Q G pc lv (.ref (ad q) :: rest) :=
  xgetB C (ci := 0) (T := TX0) ho rfl rfl inlX0 0 (by decide) rfl hlink d k
theorem xp_0_made (C : xC p s m args meth c cc own nL rt D cy) {q index : Nat} {v : Int32} (ho : xO kd NP 0 q) (hz : v = 0 ∨ v = 1) (hlink : Cond.fieldLink own index "HedgeChains$Contract" "made" "Z" ∈ xAllW) (d : decode cc pc = .ok (.putfield index, 3)) (k : xX p l e R s m args below meth c A H0 D cy ad kd NP nL cells slots Q (mset G q 0 v) (pc + 3) lv rest) : xX p l e R s m args below meth c A H0 D cy ad kd NP nL cells slots Q G pc lv (.int v :: .ref (ad q) :: rest) :=
  xputB C (ci := 0) (T := TX0) (ty := .boolean) ho rfl rfl inlX0 tyX0 tyX0_ok nmX0 0 (by decide) (by exact Nat.le_of_ble_eq_true rfl) rfl (by decide +kernel) (xz_nar hz) (xz_fit hz) (by simp [kE, mset, mrow, upd]) hlink d k
theorem xgN_0_made (C : xC p s m args meth c cc own nL rt D cy) {q index : Nat} (ho : xO kd NP 0 q) (hlink : (own, index, "HedgeChains$Contract", "made", "Z") ∈ xNF) (d : decode cc pc = .ok (.getfield index, 3)) (k : xX p l e R s m args below meth c A H0 D cy ad kd NP nL cells slots Q G (pc + 3) lv (.int (G q 0) :: rest)) : xX p l e R s m args below meth c A H0 D cy ad kd NP nL cells slots Q G pc lv (.ref (ad q) :: rest) :=
  xgetBN C (ci := 0) (T := TX0) ho rfl rfl inlX0 0 (by decide) rfl hlink d k
theorem xpN_0_made (C : xC p s m args meth c cc own nL rt D cy) {q index : Nat} {v : Int32} (ho : xO kd NP 0 q) (hz : v = 0 ∨ v = 1) (hlink : (own, index, "HedgeChains$Contract", "made", "Z") ∈ xNF) (d : decode cc pc = .ok (.putfield index, 3)) (k : xX p l e R s m args below meth c A H0 D cy ad kd NP nL cells slots Q (mset G q 0 v) (pc + 3) lv rest) : xX p l e R s m args below meth c A H0 D cy ad kd NP nL cells slots Q G pc lv (.int v :: .ref (ad q) :: rest) :=
  xputBN C (ci := 0) (T := TX0) (ty := .boolean) ho rfl rfl inlX0 tyX0 tyX0_ok nmX0 0 (by decide) (by exact Nat.le_of_ble_eq_true rfl) rfl (by decide +kernel) (xz_nar hz) (xz_fit hz) (by simp [kE, mset, mrow, upd]) hlink d k
theorem xg_0_price (C : xC p s m args meth c cc own nL rt D cy) {q index : Nat} (ho : xO kd NP 0 q) (hlink : Cond.fieldLink own index "HedgeChains$Contract" "price" "I" ∈ xAllW) (d : decode cc pc = .ok (.getfield index, 3)) (k : xX p l e R s m args below meth c A H0 D cy ad kd NP nL cells slots Q G (pc + 3) lv (.int (G q 1) :: rest)) : xX p l e R s m args below meth c A H0 D cy ad kd NP nL cells slots Q G pc lv (.ref (ad q) :: rest) :=
  xgetB C (ci := 0) (T := TX0) ho rfl rfl inlX0 1 (by decide) rfl hlink d k
theorem xp_0_price (C : xC p s m args meth c cc own nL rt D cy) {q index : Nat} {v : Int32} (ho : xO kd NP 0 q) (hlink : Cond.fieldLink own index "HedgeChains$Contract" "price" "I" ∈ xAllW) (d : decode cc pc = .ok (.putfield index, 3)) (k : xX p l e R s m args below meth c A H0 D cy ad kd NP nL cells slots Q (mset G q 1 v) (pc + 3) lv rest) : xX p l e R s m args below meth c A H0 D cy ad kd NP nL cells slots Q G pc lv (.int v :: .ref (ad q) :: rest) :=
  xputB C (ci := 0) (T := TX0) (ty := .int) ho rfl rfl inlX0 tyX0 tyX0_ok nmX0 1 (by decide) (by exact Nat.le_of_ble_eq_true rfl) rfl (by decide +kernel) (by exact vp_nar_int v) rfl (by simp [kE, mset, mrow, upd]) hlink d k
theorem xgN_0_price (C : xC p s m args meth c cc own nL rt D cy) {q index : Nat} (ho : xO kd NP 0 q) (hlink : (own, index, "HedgeChains$Contract", "price", "I") ∈ xNF) (d : decode cc pc = .ok (.getfield index, 3)) (k : xX p l e R s m args below meth c A H0 D cy ad kd NP nL cells slots Q G (pc + 3) lv (.int (G q 1) :: rest)) : xX p l e R s m args below meth c A H0 D cy ad kd NP nL cells slots Q G pc lv (.ref (ad q) :: rest) :=
  xgetBN C (ci := 0) (T := TX0) ho rfl rfl inlX0 1 (by decide) rfl hlink d k
theorem xpN_0_price (C : xC p s m args meth c cc own nL rt D cy) {q index : Nat} {v : Int32} (ho : xO kd NP 0 q) (hlink : (own, index, "HedgeChains$Contract", "price", "I") ∈ xNF) (d : decode cc pc = .ok (.putfield index, 3)) (k : xX p l e R s m args below meth c A H0 D cy ad kd NP nL cells slots Q (mset G q 1 v) (pc + 3) lv rest) : xX p l e R s m args below meth c A H0 D cy ad kd NP nL cells slots Q G pc lv (.int v :: .ref (ad q) :: rest) :=
  xputBN C (ci := 0) (T := TX0) (ty := .int) ho rfl rfl inlX0 tyX0 tyX0_ok nmX0 1 (by decide) (by exact Nat.le_of_ble_eq_true rfl) rfl (by decide +kernel) (by exact vp_nar_int v) rfl (by simp [kE, mset, mrow, upd]) hlink d k
theorem xg_0_lastWeek (C : xC p s m args meth c cc own nL rt D cy) {q index : Nat} (ho : xO kd NP 0 q) (hlink : Cond.fieldLink own index "HedgeChains$Contract" "lastWeek" "I" ∈ xAllW) (d : decode cc pc = .ok (.getfield index, 3)) (k : xX p l e R s m args below meth c A H0 D cy ad kd NP nL cells slots Q G (pc + 3) lv (.int (G q 2) :: rest)) : xX p l e R s m args below meth c A H0 D cy ad kd NP nL cells slots Q G pc lv (.ref (ad q) :: rest) :=
  xgetB C (ci := 0) (T := TX0) ho rfl rfl inlX0 2 (by decide) rfl hlink d k
theorem xp_0_lastWeek (C : xC p s m args meth c cc own nL rt D cy) {q index : Nat} {v : Int32} (ho : xO kd NP 0 q) (hlink : Cond.fieldLink own index "HedgeChains$Contract" "lastWeek" "I" ∈ xAllW) (d : decode cc pc = .ok (.putfield index, 3)) (k : xX p l e R s m args below meth c A H0 D cy ad kd NP nL cells slots Q (mset G q 2 v) (pc + 3) lv rest) : xX p l e R s m args below meth c A H0 D cy ad kd NP nL cells slots Q G pc lv (.int v :: .ref (ad q) :: rest) :=
  xputB C (ci := 0) (T := TX0) (ty := .int) ho rfl rfl inlX0 tyX0 tyX0_ok nmX0 2 (by decide) (by exact Nat.le_of_ble_eq_true rfl) rfl (by decide +kernel) (by exact vp_nar_int v) rfl (by simp [kE, mset, mrow, upd]) hlink d k
theorem xgN_0_lastWeek (C : xC p s m args meth c cc own nL rt D cy) {q index : Nat} (ho : xO kd NP 0 q) (hlink : (own, index, "HedgeChains$Contract", "lastWeek", "I") ∈ xNF) (d : decode cc pc = .ok (.getfield index, 3)) (k : xX p l e R s m args below meth c A H0 D cy ad kd NP nL cells slots Q G (pc + 3) lv (.int (G q 2) :: rest)) : xX p l e R s m args below meth c A H0 D cy ad kd NP nL cells slots Q G pc lv (.ref (ad q) :: rest) :=
  xgetBN C (ci := 0) (T := TX0) ho rfl rfl inlX0 2 (by decide) rfl hlink d k
theorem xpN_0_lastWeek (C : xC p s m args meth c cc own nL rt D cy) {q index : Nat} {v : Int32} (ho : xO kd NP 0 q) (hlink : (own, index, "HedgeChains$Contract", "lastWeek", "I") ∈ xNF) (d : decode cc pc = .ok (.putfield index, 3)) (k : xX p l e R s m args below meth c A H0 D cy ad kd NP nL cells slots Q (mset G q 2 v) (pc + 3) lv rest) : xX p l e R s m args below meth c A H0 D cy ad kd NP nL cells slots Q G pc lv (.int v :: .ref (ad q) :: rest) :=
  xputBN C (ci := 0) (T := TX0) (ty := .int) ho rfl rfl inlX0 tyX0 tyX0_ok nmX0 2 (by decide) (by exact Nat.le_of_ble_eq_true rfl) rfl (by decide +kernel) (by exact vp_nar_int v) rfl (by simp [kE, mset, mrow, upd]) hlink d k
theorem xg_0_fine (C : xC p s m args meth c cc own nL rt D cy) {q index : Nat} (ho : xO kd NP 0 q) (hlink : Cond.fieldLink own index "HedgeChains$Contract" "fine" "I" ∈ xAllW) (d : decode cc pc = .ok (.getfield index, 3)) (k : xX p l e R s m args below meth c A H0 D cy ad kd NP nL cells slots Q G (pc + 3) lv (.int (G q 3) :: rest)) : xX p l e R s m args below meth c A H0 D cy ad kd NP nL cells slots Q G pc lv (.ref (ad q) :: rest) :=
  xgetB C (ci := 0) (T := TX0) ho rfl rfl inlX0 3 (by decide) rfl hlink d k
theorem xp_0_fine (C : xC p s m args meth c cc own nL rt D cy) {q index : Nat} {v : Int32} (ho : xO kd NP 0 q) (hlink : Cond.fieldLink own index "HedgeChains$Contract" "fine" "I" ∈ xAllW) (d : decode cc pc = .ok (.putfield index, 3)) (k : xX p l e R s m args below meth c A H0 D cy ad kd NP nL cells slots Q (mset G q 3 v) (pc + 3) lv rest) : xX p l e R s m args below meth c A H0 D cy ad kd NP nL cells slots Q G pc lv (.int v :: .ref (ad q) :: rest) :=
  xputB C (ci := 0) (T := TX0) (ty := .int) ho rfl rfl inlX0 tyX0 tyX0_ok nmX0 3 (by decide) (by exact Nat.le_of_ble_eq_true rfl) rfl (by decide +kernel) (by exact vp_nar_int v) rfl (by simp [kE, mset, mrow, upd]) hlink d k
theorem xgN_0_fine (C : xC p s m args meth c cc own nL rt D cy) {q index : Nat} (ho : xO kd NP 0 q) (hlink : (own, index, "HedgeChains$Contract", "fine", "I") ∈ xNF) (d : decode cc pc = .ok (.getfield index, 3)) (k : xX p l e R s m args below meth c A H0 D cy ad kd NP nL cells slots Q G (pc + 3) lv (.int (G q 3) :: rest)) : xX p l e R s m args below meth c A H0 D cy ad kd NP nL cells slots Q G pc lv (.ref (ad q) :: rest) :=
  xgetBN C (ci := 0) (T := TX0) ho rfl rfl inlX0 3 (by decide) rfl hlink d k
theorem xpN_0_fine (C : xC p s m args meth c cc own nL rt D cy) {q index : Nat} {v : Int32} (ho : xO kd NP 0 q) (hlink : (own, index, "HedgeChains$Contract", "fine", "I") ∈ xNF) (d : decode cc pc = .ok (.putfield index, 3)) (k : xX p l e R s m args below meth c A H0 D cy ad kd NP nL cells slots Q (mset G q 3 v) (pc + 3) lv rest) : xX p l e R s m args below meth c A H0 D cy ad kd NP nL cells slots Q G pc lv (.int v :: .ref (ad q) :: rest) :=
  xputBN C (ci := 0) (T := TX0) (ty := .int) ho rfl rfl inlX0 tyX0 tyX0_ok nmX0 3 (by decide) (by exact Nat.le_of_ble_eq_true rfl) rfl (by decide +kernel) (by exact vp_nar_int v) rfl (by simp [kE, mset, mrow, upd]) hlink d k
theorem xg_1_kinds (C : xC p s m args meth c cc own nL rt D cy) {q index : Nat} (ho : xO kd NP 1 q) (hlink : Cond.fieldLink own index "HedgeChains$Hedge" "kinds" "[I" ∈ xAllW) (d : decode cc pc = .ok (.getfield index, 3)) (k : xX p l e R s m args below meth c A H0 D cy ad kd NP nL cells slots Q G (pc + 3) lv (.ref (ad (q + 1)) :: rest)) : xX p l e R s m args below meth c A H0 D cy ad kd NP nL cells slots Q G pc lv (.ref (ad q) :: rest) :=
  xgetB C (ci := 1) (T := TX1) ho rfl rfl inlX1 0 (by decide) rfl hlink d k
theorem xgN_1_kinds (C : xC p s m args meth c cc own nL rt D cy) {q index : Nat} (ho : xO kd NP 1 q) (hlink : (own, index, "HedgeChains$Hedge", "kinds", "[I") ∈ xNF) (d : decode cc pc = .ok (.getfield index, 3)) (k : xX p l e R s m args below meth c A H0 D cy ad kd NP nL cells slots Q G (pc + 3) lv (.ref (ad (q + 1)) :: rest)) : xX p l e R s m args below meth c A H0 D cy ad kd NP nL cells slots Q G pc lv (.ref (ad q) :: rest) :=
  xgetBN C (ci := 1) (T := TX1) ho rfl rfl inlX1 0 (by decide) rfl hlink d k
theorem xg_1_thicknesses (C : xC p s m args meth c cc own nL rt D cy) {q index : Nat} (ho : xO kd NP 1 q) (hlink : Cond.fieldLink own index "HedgeChains$Hedge" "thicknesses" "[I" ∈ xAllW) (d : decode cc pc = .ok (.getfield index, 3)) (k : xX p l e R s m args below meth c A H0 D cy ad kd NP nL cells slots Q G (pc + 3) lv (.ref (ad (q + 2)) :: rest)) : xX p l e R s m args below meth c A H0 D cy ad kd NP nL cells slots Q G pc lv (.ref (ad q) :: rest) :=
  xgetB C (ci := 1) (T := TX1) ho rfl rfl inlX1 1 (by decide) rfl hlink d k
theorem xgN_1_thicknesses (C : xC p s m args meth c cc own nL rt D cy) {q index : Nat} (ho : xO kd NP 1 q) (hlink : (own, index, "HedgeChains$Hedge", "thicknesses", "[I") ∈ xNF) (d : decode cc pc = .ok (.getfield index, 3)) (k : xX p l e R s m args below meth c A H0 D cy ad kd NP nL cells slots Q G (pc + 3) lv (.ref (ad (q + 2)) :: rest)) : xX p l e R s m args below meth c A H0 D cy ad kd NP nL cells slots Q G pc lv (.ref (ad q) :: rest) :=
  xgetBN C (ci := 1) (T := TX1) ho rfl rfl inlX1 1 (by decide) rfl hlink d k
theorem xg_1_ages (C : xC p s m args meth c cc own nL rt D cy) {q index : Nat} (ho : xO kd NP 1 q) (hlink : Cond.fieldLink own index "HedgeChains$Hedge" "ages" "[I" ∈ xAllW) (d : decode cc pc = .ok (.getfield index, 3)) (k : xX p l e R s m args below meth c A H0 D cy ad kd NP nL cells slots Q G (pc + 3) lv (.ref (ad (q + 3)) :: rest)) : xX p l e R s m args below meth c A H0 D cy ad kd NP nL cells slots Q G pc lv (.ref (ad q) :: rest) :=
  xgetB C (ci := 1) (T := TX1) ho rfl rfl inlX1 2 (by decide) rfl hlink d k
theorem xgN_1_ages (C : xC p s m args meth c cc own nL rt D cy) {q index : Nat} (ho : xO kd NP 1 q) (hlink : (own, index, "HedgeChains$Hedge", "ages", "[I") ∈ xNF) (d : decode cc pc = .ok (.getfield index, 3)) (k : xX p l e R s m args below meth c A H0 D cy ad kd NP nL cells slots Q G (pc + 3) lv (.ref (ad (q + 3)) :: rest)) : xX p l e R s m args below meth c A H0 D cy ad kd NP nL cells slots Q G pc lv (.ref (ad q) :: rest) :=
  xgetBN C (ci := 1) (T := TX1) ho rfl rfl inlX1 2 (by decide) rfl hlink d k
theorem xg_1_length (C : xC p s m args meth c cc own nL rt D cy) {q index : Nat} (ho : xO kd NP 1 q) (hlink : Cond.fieldLink own index "HedgeChains$Hedge" "length" "I" ∈ xAllW) (d : decode cc pc = .ok (.getfield index, 3)) (k : xX p l e R s m args below meth c A H0 D cy ad kd NP nL cells slots Q G (pc + 3) lv (.int (G q 3) :: rest)) : xX p l e R s m args below meth c A H0 D cy ad kd NP nL cells slots Q G pc lv (.ref (ad q) :: rest) :=
  xgetB C (ci := 1) (T := TX1) ho rfl rfl inlX1 3 (by decide) rfl hlink d k
theorem xp_1_length (C : xC p s m args meth c cc own nL rt D cy) {q index : Nat} {v : Int32} (ho : xO kd NP 1 q) (hlink : Cond.fieldLink own index "HedgeChains$Hedge" "length" "I" ∈ xAllW) (d : decode cc pc = .ok (.putfield index, 3)) (k : xX p l e R s m args below meth c A H0 D cy ad kd NP nL cells slots Q (mset G q 3 v) (pc + 3) lv rest) : xX p l e R s m args below meth c A H0 D cy ad kd NP nL cells slots Q G pc lv (.int v :: .ref (ad q) :: rest) :=
  xputB C (ci := 1) (T := TX1) (ty := .int) ho rfl rfl inlX1 tyX1 tyX1_ok nmX1 3 (by decide) (by exact Nat.le_of_ble_eq_true rfl) rfl (by decide +kernel) (by exact vp_nar_int v) rfl (by simp [kE, mset, mrow, upd]) hlink d k
theorem xgN_1_length (C : xC p s m args meth c cc own nL rt D cy) {q index : Nat} (ho : xO kd NP 1 q) (hlink : (own, index, "HedgeChains$Hedge", "length", "I") ∈ xNF) (d : decode cc pc = .ok (.getfield index, 3)) (k : xX p l e R s m args below meth c A H0 D cy ad kd NP nL cells slots Q G (pc + 3) lv (.int (G q 3) :: rest)) : xX p l e R s m args below meth c A H0 D cy ad kd NP nL cells slots Q G pc lv (.ref (ad q) :: rest) :=
  xgetBN C (ci := 1) (T := TX1) ho rfl rfl inlX1 3 (by decide) rfl hlink d k
theorem xpN_1_length (C : xC p s m args meth c cc own nL rt D cy) {q index : Nat} {v : Int32} (ho : xO kd NP 1 q) (hlink : (own, index, "HedgeChains$Hedge", "length", "I") ∈ xNF) (d : decode cc pc = .ok (.putfield index, 3)) (k : xX p l e R s m args below meth c A H0 D cy ad kd NP nL cells slots Q (mset G q 3 v) (pc + 3) lv rest) : xX p l e R s m args below meth c A H0 D cy ad kd NP nL cells slots Q G pc lv (.int v :: .ref (ad q) :: rest) :=
  xputBN C (ci := 1) (T := TX1) (ty := .int) ho rfl rfl inlX1 tyX1 tyX1_ok nmX1 3 (by decide) (by exact Nat.le_of_ble_eq_true rfl) rfl (by decide +kernel) (by exact vp_nar_int v) rfl (by simp [kE, mset, mrow, upd]) hlink d k
theorem xg_2_hedge (C : xC p s m args meth c cc own nL rt D cy) {q index : Nat} (ho : xO kd NP 2 q) (hlink : Cond.fieldLink own index "HedgeChains$HedgeReader" "hedge" "LHedgeChains$Hedge;" ∈ xAllW) (d : decode cc pc = .ok (.getfield index, 3)) (k : xX p l e R s m args below meth c A H0 D cy ad kd NP nL cells slots Q G (pc + 3) lv (.ref (ad (q + 1)) :: rest)) : xX p l e R s m args below meth c A H0 D cy ad kd NP nL cells slots Q G pc lv (.ref (ad q) :: rest) :=
  xgetB C (ci := 2) (T := TX2) ho rfl rfl inlX2 0 (by decide) rfl hlink d k
theorem xgN_2_hedge (C : xC p s m args meth c cc own nL rt D cy) {q index : Nat} (ho : xO kd NP 2 q) (hlink : (own, index, "HedgeChains$HedgeReader", "hedge", "LHedgeChains$Hedge;") ∈ xNF) (d : decode cc pc = .ok (.getfield index, 3)) (k : xX p l e R s m args below meth c A H0 D cy ad kd NP nL cells slots Q G (pc + 3) lv (.ref (ad (q + 1)) :: rest)) : xX p l e R s m args below meth c A H0 D cy ad kd NP nL cells slots Q G pc lv (.ref (ad q) :: rest) :=
  xgetBN C (ci := 2) (T := TX2) ho rfl rfl inlX2 0 (by decide) rfl hlink d k
theorem xg_2_told (C : xC p s m args meth c cc own nL rt D cy) {q index : Nat} (ho : xO kd NP 2 q) (hlink : Cond.fieldLink own index "HedgeChains$HedgeReader" "told" "I" ∈ xAllW) (d : decode cc pc = .ok (.getfield index, 3)) (k : xX p l e R s m args below meth c A H0 D cy ad kd NP nL cells slots Q G (pc + 3) lv (.int (G q 1) :: rest)) : xX p l e R s m args below meth c A H0 D cy ad kd NP nL cells slots Q G pc lv (.ref (ad q) :: rest) :=
  xgetB C (ci := 2) (T := TX2) ho rfl rfl inlX2 1 (by decide) rfl hlink d k
theorem xp_2_told (C : xC p s m args meth c cc own nL rt D cy) {q index : Nat} {v : Int32} (ho : xO kd NP 2 q) (hlink : Cond.fieldLink own index "HedgeChains$HedgeReader" "told" "I" ∈ xAllW) (d : decode cc pc = .ok (.putfield index, 3)) (k : xX p l e R s m args below meth c A H0 D cy ad kd NP nL cells slots Q (mset G q 1 v) (pc + 3) lv rest) : xX p l e R s m args below meth c A H0 D cy ad kd NP nL cells slots Q G pc lv (.int v :: .ref (ad q) :: rest) :=
  xputB C (ci := 2) (T := TX2) (ty := .int) ho rfl rfl inlX2 tyX2 tyX2_ok nmX2 1 (by decide) (by exact Nat.le_of_ble_eq_true rfl) rfl (by decide +kernel) (by exact vp_nar_int v) rfl (by simp [kE, mset, mrow, upd]) hlink d k
theorem xgN_2_told (C : xC p s m args meth c cc own nL rt D cy) {q index : Nat} (ho : xO kd NP 2 q) (hlink : (own, index, "HedgeChains$HedgeReader", "told", "I") ∈ xNF) (d : decode cc pc = .ok (.getfield index, 3)) (k : xX p l e R s m args below meth c A H0 D cy ad kd NP nL cells slots Q G (pc + 3) lv (.int (G q 1) :: rest)) : xX p l e R s m args below meth c A H0 D cy ad kd NP nL cells slots Q G pc lv (.ref (ad q) :: rest) :=
  xgetBN C (ci := 2) (T := TX2) ho rfl rfl inlX2 1 (by decide) rfl hlink d k
theorem xpN_2_told (C : xC p s m args meth c cc own nL rt D cy) {q index : Nat} {v : Int32} (ho : xO kd NP 2 q) (hlink : (own, index, "HedgeChains$HedgeReader", "told", "I") ∈ xNF) (d : decode cc pc = .ok (.putfield index, 3)) (k : xX p l e R s m args below meth c A H0 D cy ad kd NP nL cells slots Q (mset G q 1 v) (pc + 3) lv rest) : xX p l e R s m args below meth c A H0 D cy ad kd NP nL cells slots Q G pc lv (.int v :: .ref (ad q) :: rest) :=
  xputBN C (ci := 2) (T := TX2) (ty := .int) ho rfl rfl inlX2 tyX2 tyX2_ok nmX2 1 (by decide) (by exact Nat.le_of_ble_eq_true rfl) rfl (by decide +kernel) (by exact vp_nar_int v) rfl (by simp [kE, mset, mrow, upd]) hlink d k
theorem xg_2_at (C : xC p s m args meth c cc own nL rt D cy) {q index : Nat} (ho : xO kd NP 2 q) (hlink : Cond.fieldLink own index "HedgeChains$HedgeReader" "at" "I" ∈ xAllW) (d : decode cc pc = .ok (.getfield index, 3)) (k : xX p l e R s m args below meth c A H0 D cy ad kd NP nL cells slots Q G (pc + 3) lv (.int (G q 2) :: rest)) : xX p l e R s m args below meth c A H0 D cy ad kd NP nL cells slots Q G pc lv (.ref (ad q) :: rest) :=
  xgetB C (ci := 2) (T := TX2) ho rfl rfl inlX2 2 (by decide) rfl hlink d k
theorem xp_2_at (C : xC p s m args meth c cc own nL rt D cy) {q index : Nat} {v : Int32} (ho : xO kd NP 2 q) (hlink : Cond.fieldLink own index "HedgeChains$HedgeReader" "at" "I" ∈ xAllW) (d : decode cc pc = .ok (.putfield index, 3)) (k : xX p l e R s m args below meth c A H0 D cy ad kd NP nL cells slots Q (mset G q 2 v) (pc + 3) lv rest) : xX p l e R s m args below meth c A H0 D cy ad kd NP nL cells slots Q G pc lv (.int v :: .ref (ad q) :: rest) :=
  xputB C (ci := 2) (T := TX2) (ty := .int) ho rfl rfl inlX2 tyX2 tyX2_ok nmX2 2 (by decide) (by exact Nat.le_of_ble_eq_true rfl) rfl (by decide +kernel) (by exact vp_nar_int v) rfl (by simp [kE, mset, mrow, upd]) hlink d k
theorem xgN_2_at (C : xC p s m args meth c cc own nL rt D cy) {q index : Nat} (ho : xO kd NP 2 q) (hlink : (own, index, "HedgeChains$HedgeReader", "at", "I") ∈ xNF) (d : decode cc pc = .ok (.getfield index, 3)) (k : xX p l e R s m args below meth c A H0 D cy ad kd NP nL cells slots Q G (pc + 3) lv (.int (G q 2) :: rest)) : xX p l e R s m args below meth c A H0 D cy ad kd NP nL cells slots Q G pc lv (.ref (ad q) :: rest) :=
  xgetBN C (ci := 2) (T := TX2) ho rfl rfl inlX2 2 (by decide) rfl hlink d k
theorem xpN_2_at (C : xC p s m args meth c cc own nL rt D cy) {q index : Nat} {v : Int32} (ho : xO kd NP 2 q) (hlink : (own, index, "HedgeChains$HedgeReader", "at", "I") ∈ xNF) (d : decode cc pc = .ok (.putfield index, 3)) (k : xX p l e R s m args below meth c A H0 D cy ad kd NP nL cells slots Q (mset G q 2 v) (pc + 3) lv rest) : xX p l e R s m args below meth c A H0 D cy ad kd NP nL cells slots Q G pc lv (.int v :: .ref (ad q) :: rest) :=
  xputBN C (ci := 2) (T := TX2) (ty := .int) ho rfl rfl inlX2 tyX2 tyX2_ok nmX2 2 (by decide) (by exact Nat.le_of_ble_eq_true rfl) rfl (by decide +kernel) (by exact vp_nar_int v) rfl (by simp [kE, mset, mrow, upd]) hlink d k
theorem xg_3_states (C : xC p s m args meth c cc own nL rt D cy) {q index : Nat} (ho : xO kd NP 3 q) (hlink : Cond.fieldLink own index "HedgeChains$History" "states" "[LHedgeChains$State;" ∈ xAllW) (d : decode cc pc = .ok (.getfield index, 3)) (k : xX p l e R s m args below meth c A H0 D cy ad kd NP nL cells slots Q G (pc + 3) lv (.ref (ad (q + 1)) :: rest)) : xX p l e R s m args below meth c A H0 D cy ad kd NP nL cells slots Q G pc lv (.ref (ad q) :: rest) :=
  xgetB C (ci := 3) (T := TX3) ho rfl rfl inlX3 0 (by decide) rfl hlink d k
theorem xgN_3_states (C : xC p s m args meth c cc own nL rt D cy) {q index : Nat} (ho : xO kd NP 3 q) (hlink : (own, index, "HedgeChains$History", "states", "[LHedgeChains$State;") ∈ xNF) (d : decode cc pc = .ok (.getfield index, 3)) (k : xX p l e R s m args below meth c A H0 D cy ad kd NP nL cells slots Q G (pc + 3) lv (.ref (ad (q + 1)) :: rest)) : xX p l e R s m args below meth c A H0 D cy ad kd NP nL cells slots Q G pc lv (.ref (ad q) :: rest) :=
  xgetBN C (ci := 3) (T := TX3) ho rfl rfl inlX3 0 (by decide) rfl hlink d k
theorem xg_3_next (C : xC p s m args meth c cc own nL rt D cy) {q index : Nat} (ho : xO kd NP 3 q) (hlink : Cond.fieldLink own index "HedgeChains$History" "next" "I" ∈ xAllW) (d : decode cc pc = .ok (.getfield index, 3)) (k : xX p l e R s m args below meth c A H0 D cy ad kd NP nL cells slots Q G (pc + 3) lv (.int (G q 1) :: rest)) : xX p l e R s m args below meth c A H0 D cy ad kd NP nL cells slots Q G pc lv (.ref (ad q) :: rest) :=
  xgetB C (ci := 3) (T := TX3) ho rfl rfl inlX3 1 (by decide) rfl hlink d k
theorem xp_3_next (C : xC p s m args meth c cc own nL rt D cy) {q index : Nat} {v : Int32} (ho : xO kd NP 3 q) (hlink : Cond.fieldLink own index "HedgeChains$History" "next" "I" ∈ xAllW) (d : decode cc pc = .ok (.putfield index, 3)) (k : xX p l e R s m args below meth c A H0 D cy ad kd NP nL cells slots Q (mset G q 1 v) (pc + 3) lv rest) : xX p l e R s m args below meth c A H0 D cy ad kd NP nL cells slots Q G pc lv (.int v :: .ref (ad q) :: rest) :=
  xputB C (ci := 3) (T := TX3) (ty := .int) ho rfl rfl inlX3 tyX3 tyX3_ok nmX3 1 (by decide) (by exact Nat.le_of_ble_eq_true rfl) rfl (by decide +kernel) (by exact vp_nar_int v) rfl (by simp [kE, mset, mrow, upd]) hlink d k
theorem xgN_3_next (C : xC p s m args meth c cc own nL rt D cy) {q index : Nat} (ho : xO kd NP 3 q) (hlink : (own, index, "HedgeChains$History", "next", "I") ∈ xNF) (d : decode cc pc = .ok (.getfield index, 3)) (k : xX p l e R s m args below meth c A H0 D cy ad kd NP nL cells slots Q G (pc + 3) lv (.int (G q 1) :: rest)) : xX p l e R s m args below meth c A H0 D cy ad kd NP nL cells slots Q G pc lv (.ref (ad q) :: rest) :=
  xgetBN C (ci := 3) (T := TX3) ho rfl rfl inlX3 1 (by decide) rfl hlink d k
theorem xpN_3_next (C : xC p s m args meth c cc own nL rt D cy) {q index : Nat} {v : Int32} (ho : xO kd NP 3 q) (hlink : (own, index, "HedgeChains$History", "next", "I") ∈ xNF) (d : decode cc pc = .ok (.putfield index, 3)) (k : xX p l e R s m args below meth c A H0 D cy ad kd NP nL cells slots Q (mset G q 1 v) (pc + 3) lv rest) : xX p l e R s m args below meth c A H0 D cy ad kd NP nL cells slots Q G pc lv (.int v :: .ref (ad q) :: rest) :=
  xputBN C (ci := 3) (T := TX3) (ty := .int) ho rfl rfl inlX3 tyX3 tyX3_ok nmX3 1 (by decide) (by exact Nat.le_of_ble_eq_true rfl) rfl (by decide +kernel) (by exact vp_nar_int v) rfl (by simp [kE, mset, mrow, upd]) hlink d k
theorem xg_3_kept (C : xC p s m args meth c cc own nL rt D cy) {q index : Nat} (ho : xO kd NP 3 q) (hlink : Cond.fieldLink own index "HedgeChains$History" "kept" "I" ∈ xAllW) (d : decode cc pc = .ok (.getfield index, 3)) (k : xX p l e R s m args below meth c A H0 D cy ad kd NP nL cells slots Q G (pc + 3) lv (.int (G q 2) :: rest)) : xX p l e R s m args below meth c A H0 D cy ad kd NP nL cells slots Q G pc lv (.ref (ad q) :: rest) :=
  xgetB C (ci := 3) (T := TX3) ho rfl rfl inlX3 2 (by decide) rfl hlink d k
theorem xp_3_kept (C : xC p s m args meth c cc own nL rt D cy) {q index : Nat} {v : Int32} (ho : xO kd NP 3 q) (hlink : Cond.fieldLink own index "HedgeChains$History" "kept" "I" ∈ xAllW) (d : decode cc pc = .ok (.putfield index, 3)) (k : xX p l e R s m args below meth c A H0 D cy ad kd NP nL cells slots Q (mset G q 2 v) (pc + 3) lv rest) : xX p l e R s m args below meth c A H0 D cy ad kd NP nL cells slots Q G pc lv (.int v :: .ref (ad q) :: rest) :=
  xputB C (ci := 3) (T := TX3) (ty := .int) ho rfl rfl inlX3 tyX3 tyX3_ok nmX3 2 (by decide) (by exact Nat.le_of_ble_eq_true rfl) rfl (by decide +kernel) (by exact vp_nar_int v) rfl (by simp [kE, mset, mrow, upd]) hlink d k
theorem xgN_3_kept (C : xC p s m args meth c cc own nL rt D cy) {q index : Nat} (ho : xO kd NP 3 q) (hlink : (own, index, "HedgeChains$History", "kept", "I") ∈ xNF) (d : decode cc pc = .ok (.getfield index, 3)) (k : xX p l e R s m args below meth c A H0 D cy ad kd NP nL cells slots Q G (pc + 3) lv (.int (G q 2) :: rest)) : xX p l e R s m args below meth c A H0 D cy ad kd NP nL cells slots Q G pc lv (.ref (ad q) :: rest) :=
  xgetBN C (ci := 3) (T := TX3) ho rfl rfl inlX3 2 (by decide) rfl hlink d k
theorem xpN_3_kept (C : xC p s m args meth c cc own nL rt D cy) {q index : Nat} {v : Int32} (ho : xO kd NP 3 q) (hlink : (own, index, "HedgeChains$History", "kept", "I") ∈ xNF) (d : decode cc pc = .ok (.putfield index, 3)) (k : xX p l e R s m args below meth c A H0 D cy ad kd NP nL cells slots Q (mset G q 2 v) (pc + 3) lv rest) : xX p l e R s m args below meth c A H0 D cy ad kd NP nL cells slots Q G pc lv (.int v :: .ref (ad q) :: rest) :=
  xputBN C (ci := 3) (T := TX3) (ty := .int) ho rfl rfl inlX3 tyX3 tyX3_ok nmX3 2 (by decide) (by exact Nat.le_of_ble_eq_true rfl) rfl (by decide +kernel) (by exact vp_nar_int v) rfl (by simp [kE, mset, mrow, upd]) hlink d k
theorem xg_4_hedges (C : xC p s m args meth c cc own nL rt D cy) {q index : Nat} (ho : xO kd NP 4 q) (hlink : Cond.fieldLink own index "HedgeChains$Land" "hedges" "[LHedgeChains$Hedge;" ∈ xAllW) (d : decode cc pc = .ok (.getfield index, 3)) (k : xX p l e R s m args below meth c A H0 D cy ad kd NP nL cells slots Q G (pc + 3) lv (.ref (ad (q + 1)) :: rest)) : xX p l e R s m args below meth c A H0 D cy ad kd NP nL cells slots Q G pc lv (.ref (ad q) :: rest) :=
  xgetB C (ci := 4) (T := TX4) ho rfl rfl inlX4 0 (by decide) rfl hlink d k
theorem xgN_4_hedges (C : xC p s m args meth c cc own nL rt D cy) {q index : Nat} (ho : xO kd NP 4 q) (hlink : (own, index, "HedgeChains$Land", "hedges", "[LHedgeChains$Hedge;") ∈ xNF) (d : decode cc pc = .ok (.getfield index, 3)) (k : xX p l e R s m args below meth c A H0 D cy ad kd NP nL cells slots Q G (pc + 3) lv (.ref (ad (q + 1)) :: rest)) : xX p l e R s m args below meth c A H0 D cy ad kd NP nL cells slots Q G pc lv (.ref (ad q) :: rest) :=
  xgetBN C (ci := 4) (T := TX4) ho rfl rfl inlX4 0 (by decide) rfl hlink d k
theorem xg_4_contracts (C : xC p s m args meth c cc own nL rt D cy) {q index : Nat} (ho : xO kd NP 4 q) (hlink : Cond.fieldLink own index "HedgeChains$Land" "contracts" "[LHedgeChains$Contract;" ∈ xAllW) (d : decode cc pc = .ok (.getfield index, 3)) (k : xX p l e R s m args below meth c A H0 D cy ad kd NP nL cells slots Q G (pc + 3) lv (.ref (ad (q + 2)) :: rest)) : xX p l e R s m args below meth c A H0 D cy ad kd NP nL cells slots Q G pc lv (.ref (ad q) :: rest) :=
  xgetB C (ci := 4) (T := TX4) ho rfl rfl inlX4 1 (by decide) rfl hlink d k
theorem xgN_4_contracts (C : xC p s m args meth c cc own nL rt D cy) {q index : Nat} (ho : xO kd NP 4 q) (hlink : (own, index, "HedgeChains$Land", "contracts", "[LHedgeChains$Contract;") ∈ xNF) (d : decode cc pc = .ok (.getfield index, 3)) (k : xX p l e R s m args below meth c A H0 D cy ad kd NP nL cells slots Q G (pc + 3) lv (.ref (ad (q + 2)) :: rest)) : xX p l e R s m args below meth c A H0 D cy ad kd NP nL cells slots Q G pc lv (.ref (ad q) :: rest) :=
  xgetBN C (ci := 4) (T := TX4) ho rfl rfl inlX4 1 (by decide) rfl hlink d k
theorem xg_4_week (C : xC p s m args meth c cc own nL rt D cy) {q index : Nat} (ho : xO kd NP 4 q) (hlink : Cond.fieldLink own index "HedgeChains$Land" "week" "I" ∈ xAllW) (d : decode cc pc = .ok (.getfield index, 3)) (k : xX p l e R s m args below meth c A H0 D cy ad kd NP nL cells slots Q G (pc + 3) lv (.int (G q 2) :: rest)) : xX p l e R s m args below meth c A H0 D cy ad kd NP nL cells slots Q G pc lv (.ref (ad q) :: rest) :=
  xgetB C (ci := 4) (T := TX4) ho rfl rfl inlX4 2 (by decide) rfl hlink d k
theorem xp_4_week (C : xC p s m args meth c cc own nL rt D cy) {q index : Nat} {v : Int32} (ho : xO kd NP 4 q) (hlink : Cond.fieldLink own index "HedgeChains$Land" "week" "I" ∈ xAllW) (d : decode cc pc = .ok (.putfield index, 3)) (k : xX p l e R s m args below meth c A H0 D cy ad kd NP nL cells slots Q (mset G q 2 v) (pc + 3) lv rest) : xX p l e R s m args below meth c A H0 D cy ad kd NP nL cells slots Q G pc lv (.int v :: .ref (ad q) :: rest) :=
  xputB C (ci := 4) (T := TX4) (ty := .int) ho rfl rfl inlX4 tyX4 tyX4_ok nmX4 2 (by decide) (by exact Nat.le_of_ble_eq_true rfl) rfl (by decide +kernel) (by exact vp_nar_int v) rfl (by simp [kE, mset, mrow, upd]) hlink d k
theorem xgN_4_week (C : xC p s m args meth c cc own nL rt D cy) {q index : Nat} (ho : xO kd NP 4 q) (hlink : (own, index, "HedgeChains$Land", "week", "I") ∈ xNF) (d : decode cc pc = .ok (.getfield index, 3)) (k : xX p l e R s m args below meth c A H0 D cy ad kd NP nL cells slots Q G (pc + 3) lv (.int (G q 2) :: rest)) : xX p l e R s m args below meth c A H0 D cy ad kd NP nL cells slots Q G pc lv (.ref (ad q) :: rest) :=
  xgetBN C (ci := 4) (T := TX4) ho rfl rfl inlX4 2 (by decide) rfl hlink d k
theorem xpN_4_week (C : xC p s m args meth c cc own nL rt D cy) {q index : Nat} {v : Int32} (ho : xO kd NP 4 q) (hlink : (own, index, "HedgeChains$Land", "week", "I") ∈ xNF) (d : decode cc pc = .ok (.putfield index, 3)) (k : xX p l e R s m args below meth c A H0 D cy ad kd NP nL cells slots Q (mset G q 2 v) (pc + 3) lv rest) : xX p l e R s m args below meth c A H0 D cy ad kd NP nL cells slots Q G pc lv (.int v :: .ref (ad q) :: rest) :=
  xputBN C (ci := 4) (T := TX4) (ty := .int) ho rfl rfl inlX4 tyX4 tyX4_ok nmX4 2 (by decide) (by exact Nat.le_of_ble_eq_true rfl) rfl (by decide +kernel) (by exact vp_nar_int v) rfl (by simp [kE, mset, mrow, upd]) hlink d k
theorem xg_4_firstClosed (C : xC p s m args meth c cc own nL rt D cy) {q index : Nat} (ho : xO kd NP 4 q) (hlink : Cond.fieldLink own index "HedgeChains$Land" "firstClosed" "I" ∈ xAllW) (d : decode cc pc = .ok (.getfield index, 3)) (k : xX p l e R s m args below meth c A H0 D cy ad kd NP nL cells slots Q G (pc + 3) lv (.int (G q 3) :: rest)) : xX p l e R s m args below meth c A H0 D cy ad kd NP nL cells slots Q G pc lv (.ref (ad q) :: rest) :=
  xgetB C (ci := 4) (T := TX4) ho rfl rfl inlX4 3 (by decide) rfl hlink d k
theorem xp_4_firstClosed (C : xC p s m args meth c cc own nL rt D cy) {q index : Nat} {v : Int32} (ho : xO kd NP 4 q) (hlink : Cond.fieldLink own index "HedgeChains$Land" "firstClosed" "I" ∈ xAllW) (d : decode cc pc = .ok (.putfield index, 3)) (k : xX p l e R s m args below meth c A H0 D cy ad kd NP nL cells slots Q (mset G q 3 v) (pc + 3) lv rest) : xX p l e R s m args below meth c A H0 D cy ad kd NP nL cells slots Q G pc lv (.int v :: .ref (ad q) :: rest) :=
  xputB C (ci := 4) (T := TX4) (ty := .int) ho rfl rfl inlX4 tyX4 tyX4_ok nmX4 3 (by decide) (by exact Nat.le_of_ble_eq_true rfl) rfl (by decide +kernel) (by exact vp_nar_int v) rfl (by simp [kE, mset, mrow, upd]) hlink d k
theorem xgN_4_firstClosed (C : xC p s m args meth c cc own nL rt D cy) {q index : Nat} (ho : xO kd NP 4 q) (hlink : (own, index, "HedgeChains$Land", "firstClosed", "I") ∈ xNF) (d : decode cc pc = .ok (.getfield index, 3)) (k : xX p l e R s m args below meth c A H0 D cy ad kd NP nL cells slots Q G (pc + 3) lv (.int (G q 3) :: rest)) : xX p l e R s m args below meth c A H0 D cy ad kd NP nL cells slots Q G pc lv (.ref (ad q) :: rest) :=
  xgetBN C (ci := 4) (T := TX4) ho rfl rfl inlX4 3 (by decide) rfl hlink d k
theorem xpN_4_firstClosed (C : xC p s m args meth c cc own nL rt D cy) {q index : Nat} {v : Int32} (ho : xO kd NP 4 q) (hlink : (own, index, "HedgeChains$Land", "firstClosed", "I") ∈ xNF) (d : decode cc pc = .ok (.putfield index, 3)) (k : xX p l e R s m args below meth c A H0 D cy ad kd NP nL cells slots Q (mset G q 3 v) (pc + 3) lv rest) : xX p l e R s m args below meth c A H0 D cy ad kd NP nL cells slots Q G pc lv (.int v :: .ref (ad q) :: rest) :=
  xputBN C (ci := 4) (T := TX4) (ty := .int) ho rfl rfl inlX4 tyX4 tyX4_ok nmX4 3 (by decide) (by exact Nat.le_of_ble_eq_true rfl) rfl (by decide +kernel) (by exact vp_nar_int v) rfl (by simp [kE, mset, mrow, upd]) hlink d k
theorem xg_4_lastClosed (C : xC p s m args meth c cc own nL rt D cy) {q index : Nat} (ho : xO kd NP 4 q) (hlink : Cond.fieldLink own index "HedgeChains$Land" "lastClosed" "I" ∈ xAllW) (d : decode cc pc = .ok (.getfield index, 3)) (k : xX p l e R s m args below meth c A H0 D cy ad kd NP nL cells slots Q G (pc + 3) lv (.int (G q 4) :: rest)) : xX p l e R s m args below meth c A H0 D cy ad kd NP nL cells slots Q G pc lv (.ref (ad q) :: rest) :=
  xgetB C (ci := 4) (T := TX4) ho rfl rfl inlX4 4 (by decide) rfl hlink d k
theorem xp_4_lastClosed (C : xC p s m args meth c cc own nL rt D cy) {q index : Nat} {v : Int32} (ho : xO kd NP 4 q) (hlink : Cond.fieldLink own index "HedgeChains$Land" "lastClosed" "I" ∈ xAllW) (d : decode cc pc = .ok (.putfield index, 3)) (k : xX p l e R s m args below meth c A H0 D cy ad kd NP nL cells slots Q (mset G q 4 v) (pc + 3) lv rest) : xX p l e R s m args below meth c A H0 D cy ad kd NP nL cells slots Q G pc lv (.int v :: .ref (ad q) :: rest) :=
  xputB C (ci := 4) (T := TX4) (ty := .int) ho rfl rfl inlX4 tyX4 tyX4_ok nmX4 4 (by decide) (by exact Nat.le_of_ble_eq_true rfl) rfl (by decide +kernel) (by exact vp_nar_int v) rfl (by simp [kE, mset, mrow, upd]) hlink d k
theorem xgN_4_lastClosed (C : xC p s m args meth c cc own nL rt D cy) {q index : Nat} (ho : xO kd NP 4 q) (hlink : (own, index, "HedgeChains$Land", "lastClosed", "I") ∈ xNF) (d : decode cc pc = .ok (.getfield index, 3)) (k : xX p l e R s m args below meth c A H0 D cy ad kd NP nL cells slots Q G (pc + 3) lv (.int (G q 4) :: rest)) : xX p l e R s m args below meth c A H0 D cy ad kd NP nL cells slots Q G pc lv (.ref (ad q) :: rest) :=
  xgetBN C (ci := 4) (T := TX4) ho rfl rfl inlX4 4 (by decide) rfl hlink d k
theorem xpN_4_lastClosed (C : xC p s m args meth c cc own nL rt D cy) {q index : Nat} {v : Int32} (ho : xO kd NP 4 q) (hlink : (own, index, "HedgeChains$Land", "lastClosed", "I") ∈ xNF) (d : decode cc pc = .ok (.putfield index, 3)) (k : xX p l e R s m args below meth c A H0 D cy ad kd NP nL cells slots Q (mset G q 4 v) (pc + 3) lv rest) : xX p l e R s m args below meth c A H0 D cy ad kd NP nL cells slots Q G pc lv (.int v :: .ref (ad q) :: rest) :=
  xputBN C (ci := 4) (T := TX4) (ty := .int) ho rfl rfl inlX4 tyX4 tyX4_ok nmX4 4 (by decide) (by exact Nat.le_of_ble_eq_true rfl) rfl (by decide +kernel) (by exact vp_nar_int v) rfl (by simp [kE, mset, mrow, upd]) hlink d k
theorem xg_4_strength (C : xC p s m args meth c cc own nL rt D cy) {q index : Nat} (ho : xO kd NP 4 q) (hlink : Cond.fieldLink own index "HedgeChains$Land" "strength" "I" ∈ xAllW) (d : decode cc pc = .ok (.getfield index, 3)) (k : xX p l e R s m args below meth c A H0 D cy ad kd NP nL cells slots Q G (pc + 3) lv (.int (G q 5) :: rest)) : xX p l e R s m args below meth c A H0 D cy ad kd NP nL cells slots Q G pc lv (.ref (ad q) :: rest) :=
  xgetB C (ci := 4) (T := TX4) ho rfl rfl inlX4 5 (by decide) rfl hlink d k
theorem xp_4_strength (C : xC p s m args meth c cc own nL rt D cy) {q index : Nat} {v : Int32} (ho : xO kd NP 4 q) (hlink : Cond.fieldLink own index "HedgeChains$Land" "strength" "I" ∈ xAllW) (d : decode cc pc = .ok (.putfield index, 3)) (k : xX p l e R s m args below meth c A H0 D cy ad kd NP nL cells slots Q (mset G q 5 v) (pc + 3) lv rest) : xX p l e R s m args below meth c A H0 D cy ad kd NP nL cells slots Q G pc lv (.int v :: .ref (ad q) :: rest) :=
  xputB C (ci := 4) (T := TX4) (ty := .int) ho rfl rfl inlX4 tyX4 tyX4_ok nmX4 5 (by decide) (by exact Nat.le_of_ble_eq_true rfl) rfl (by decide +kernel) (by exact vp_nar_int v) rfl (by simp [kE, mset, mrow, upd]) hlink d k
theorem xgN_4_strength (C : xC p s m args meth c cc own nL rt D cy) {q index : Nat} (ho : xO kd NP 4 q) (hlink : (own, index, "HedgeChains$Land", "strength", "I") ∈ xNF) (d : decode cc pc = .ok (.getfield index, 3)) (k : xX p l e R s m args below meth c A H0 D cy ad kd NP nL cells slots Q G (pc + 3) lv (.int (G q 5) :: rest)) : xX p l e R s m args below meth c A H0 D cy ad kd NP nL cells slots Q G pc lv (.ref (ad q) :: rest) :=
  xgetBN C (ci := 4) (T := TX4) ho rfl rfl inlX4 5 (by decide) rfl hlink d k
theorem xpN_4_strength (C : xC p s m args meth c cc own nL rt D cy) {q index : Nat} {v : Int32} (ho : xO kd NP 4 q) (hlink : (own, index, "HedgeChains$Land", "strength", "I") ∈ xNF) (d : decode cc pc = .ok (.putfield index, 3)) (k : xX p l e R s m args below meth c A H0 D cy ad kd NP nL cells slots Q (mset G q 5 v) (pc + 3) lv rest) : xX p l e R s m args below meth c A H0 D cy ad kd NP nL cells slots Q G pc lv (.int v :: .ref (ad q) :: rest) :=
  xputBN C (ci := 4) (T := TX4) (ty := .int) ho rfl rfl inlX4 tyX4 tyX4_ok nmX4 5 (by decide) (by exact Nat.le_of_ble_eq_true rfl) rfl (by decide +kernel) (by exact vp_nar_int v) rfl (by simp [kE, mset, mrow, upd]) hlink d k
theorem xg_4_work (C : xC p s m args meth c cc own nL rt D cy) {q index : Nat} (ho : xO kd NP 4 q) (hlink : Cond.fieldLink own index "HedgeChains$Land" "work" "I" ∈ xAllW) (d : decode cc pc = .ok (.getfield index, 3)) (k : xX p l e R s m args below meth c A H0 D cy ad kd NP nL cells slots Q G (pc + 3) lv (.int (G q 6) :: rest)) : xX p l e R s m args below meth c A H0 D cy ad kd NP nL cells slots Q G pc lv (.ref (ad q) :: rest) :=
  xgetB C (ci := 4) (T := TX4) ho rfl rfl inlX4 6 (by decide) rfl hlink d k
theorem xp_4_work (C : xC p s m args meth c cc own nL rt D cy) {q index : Nat} {v : Int32} (ho : xO kd NP 4 q) (hlink : Cond.fieldLink own index "HedgeChains$Land" "work" "I" ∈ xAllW) (d : decode cc pc = .ok (.putfield index, 3)) (k : xX p l e R s m args below meth c A H0 D cy ad kd NP nL cells slots Q (mset G q 6 v) (pc + 3) lv rest) : xX p l e R s m args below meth c A H0 D cy ad kd NP nL cells slots Q G pc lv (.int v :: .ref (ad q) :: rest) :=
  xputB C (ci := 4) (T := TX4) (ty := .int) ho rfl rfl inlX4 tyX4 tyX4_ok nmX4 6 (by decide) (by exact Nat.le_of_ble_eq_true rfl) rfl (by decide +kernel) (by exact vp_nar_int v) rfl (by simp [kE, mset, mrow, upd]) hlink d k
theorem xgN_4_work (C : xC p s m args meth c cc own nL rt D cy) {q index : Nat} (ho : xO kd NP 4 q) (hlink : (own, index, "HedgeChains$Land", "work", "I") ∈ xNF) (d : decode cc pc = .ok (.getfield index, 3)) (k : xX p l e R s m args below meth c A H0 D cy ad kd NP nL cells slots Q G (pc + 3) lv (.int (G q 6) :: rest)) : xX p l e R s m args below meth c A H0 D cy ad kd NP nL cells slots Q G pc lv (.ref (ad q) :: rest) :=
  xgetBN C (ci := 4) (T := TX4) ho rfl rfl inlX4 6 (by decide) rfl hlink d k
theorem xpN_4_work (C : xC p s m args meth c cc own nL rt D cy) {q index : Nat} {v : Int32} (ho : xO kd NP 4 q) (hlink : (own, index, "HedgeChains$Land", "work", "I") ∈ xNF) (d : decode cc pc = .ok (.putfield index, 3)) (k : xX p l e R s m args below meth c A H0 D cy ad kd NP nL cells slots Q (mset G q 6 v) (pc + 3) lv rest) : xX p l e R s m args below meth c A H0 D cy ad kd NP nL cells slots Q G pc lv (.int v :: .ref (ad q) :: rest) :=
  xputBN C (ci := 4) (T := TX4) (ty := .int) ho rfl rfl inlX4 tyX4 tyX4_ok nmX4 6 (by decide) (by exact Nat.le_of_ble_eq_true rfl) rfl (by decide +kernel) (by exact vp_nar_int v) rfl (by simp [kE, mset, mrow, upd]) hlink d k
theorem xg_4_stakes (C : xC p s m args meth c cc own nL rt D cy) {q index : Nat} (ho : xO kd NP 4 q) (hlink : Cond.fieldLink own index "HedgeChains$Land" "stakes" "I" ∈ xAllW) (d : decode cc pc = .ok (.getfield index, 3)) (k : xX p l e R s m args below meth c A H0 D cy ad kd NP nL cells slots Q G (pc + 3) lv (.int (G q 7) :: rest)) : xX p l e R s m args below meth c A H0 D cy ad kd NP nL cells slots Q G pc lv (.ref (ad q) :: rest) :=
  xgetB C (ci := 4) (T := TX4) ho rfl rfl inlX4 7 (by decide) rfl hlink d k
theorem xp_4_stakes (C : xC p s m args meth c cc own nL rt D cy) {q index : Nat} {v : Int32} (ho : xO kd NP 4 q) (hlink : Cond.fieldLink own index "HedgeChains$Land" "stakes" "I" ∈ xAllW) (d : decode cc pc = .ok (.putfield index, 3)) (k : xX p l e R s m args below meth c A H0 D cy ad kd NP nL cells slots Q (mset G q 7 v) (pc + 3) lv rest) : xX p l e R s m args below meth c A H0 D cy ad kd NP nL cells slots Q G pc lv (.int v :: .ref (ad q) :: rest) :=
  xputB C (ci := 4) (T := TX4) (ty := .int) ho rfl rfl inlX4 tyX4 tyX4_ok nmX4 7 (by decide) (by exact Nat.le_of_ble_eq_true rfl) rfl (by decide +kernel) (by exact vp_nar_int v) rfl (by simp [kE, mset, mrow, upd]) hlink d k
theorem xgN_4_stakes (C : xC p s m args meth c cc own nL rt D cy) {q index : Nat} (ho : xO kd NP 4 q) (hlink : (own, index, "HedgeChains$Land", "stakes", "I") ∈ xNF) (d : decode cc pc = .ok (.getfield index, 3)) (k : xX p l e R s m args below meth c A H0 D cy ad kd NP nL cells slots Q G (pc + 3) lv (.int (G q 7) :: rest)) : xX p l e R s m args below meth c A H0 D cy ad kd NP nL cells slots Q G pc lv (.ref (ad q) :: rest) :=
  xgetBN C (ci := 4) (T := TX4) ho rfl rfl inlX4 7 (by decide) rfl hlink d k
theorem xpN_4_stakes (C : xC p s m args meth c cc own nL rt D cy) {q index : Nat} {v : Int32} (ho : xO kd NP 4 q) (hlink : (own, index, "HedgeChains$Land", "stakes", "I") ∈ xNF) (d : decode cc pc = .ok (.putfield index, 3)) (k : xX p l e R s m args below meth c A H0 D cy ad kd NP nL cells slots Q (mset G q 7 v) (pc + 3) lv rest) : xX p l e R s m args below meth c A H0 D cy ad kd NP nL cells slots Q G pc lv (.int v :: .ref (ad q) :: rest) :=
  xputBN C (ci := 4) (T := TX4) (ty := .int) ho rfl rfl inlX4 tyX4 tyX4_ok nmX4 7 (by decide) (by exact Nat.le_of_ble_eq_true rfl) rfl (by decide +kernel) (by exact vp_nar_int v) rfl (by simp [kE, mset, mrow, upd]) hlink d k
theorem xg_4_purse (C : xC p s m args meth c cc own nL rt D cy) {q index : Nat} (ho : xO kd NP 4 q) (hlink : Cond.fieldLink own index "HedgeChains$Land" "purse" "I" ∈ xAllW) (d : decode cc pc = .ok (.getfield index, 3)) (k : xX p l e R s m args below meth c A H0 D cy ad kd NP nL cells slots Q G (pc + 3) lv (.int (G q 8) :: rest)) : xX p l e R s m args below meth c A H0 D cy ad kd NP nL cells slots Q G pc lv (.ref (ad q) :: rest) :=
  xgetB C (ci := 4) (T := TX4) ho rfl rfl inlX4 8 (by decide) rfl hlink d k
theorem xp_4_purse (C : xC p s m args meth c cc own nL rt D cy) {q index : Nat} {v : Int32} (ho : xO kd NP 4 q) (hlink : Cond.fieldLink own index "HedgeChains$Land" "purse" "I" ∈ xAllW) (d : decode cc pc = .ok (.putfield index, 3)) (k : xX p l e R s m args below meth c A H0 D cy ad kd NP nL cells slots Q (mset G q 8 v) (pc + 3) lv rest) : xX p l e R s m args below meth c A H0 D cy ad kd NP nL cells slots Q G pc lv (.int v :: .ref (ad q) :: rest) :=
  xputB C (ci := 4) (T := TX4) (ty := .int) ho rfl rfl inlX4 tyX4 tyX4_ok nmX4 8 (by decide) (by exact Nat.le_of_ble_eq_true rfl) rfl (by decide +kernel) (by exact vp_nar_int v) rfl (by simp [kE, mset, mrow, upd]) hlink d k
theorem xgN_4_purse (C : xC p s m args meth c cc own nL rt D cy) {q index : Nat} (ho : xO kd NP 4 q) (hlink : (own, index, "HedgeChains$Land", "purse", "I") ∈ xNF) (d : decode cc pc = .ok (.getfield index, 3)) (k : xX p l e R s m args below meth c A H0 D cy ad kd NP nL cells slots Q G (pc + 3) lv (.int (G q 8) :: rest)) : xX p l e R s m args below meth c A H0 D cy ad kd NP nL cells slots Q G pc lv (.ref (ad q) :: rest) :=
  xgetBN C (ci := 4) (T := TX4) ho rfl rfl inlX4 8 (by decide) rfl hlink d k
theorem xpN_4_purse (C : xC p s m args meth c cc own nL rt D cy) {q index : Nat} {v : Int32} (ho : xO kd NP 4 q) (hlink : (own, index, "HedgeChains$Land", "purse", "I") ∈ xNF) (d : decode cc pc = .ok (.putfield index, 3)) (k : xX p l e R s m args below meth c A H0 D cy ad kd NP nL cells slots Q (mset G q 8 v) (pc + 3) lv rest) : xX p l e R s m args below meth c A H0 D cy ad kd NP nL cells slots Q G pc lv (.int v :: .ref (ad q) :: rest) :=
  xputBN C (ci := 4) (T := TX4) (ty := .int) ho rfl rfl inlX4 tyX4 tyX4_ok nmX4 8 (by decide) (by exact Nat.le_of_ble_eq_true rfl) rfl (by decide +kernel) (by exact vp_nar_int v) rfl (by simp [kE, mset, mrow, upd]) hlink d k
theorem xg_4_debt (C : xC p s m args meth c cc own nL rt D cy) {q index : Nat} (ho : xO kd NP 4 q) (hlink : Cond.fieldLink own index "HedgeChains$Land" "debt" "I" ∈ xAllW) (d : decode cc pc = .ok (.getfield index, 3)) (k : xX p l e R s m args below meth c A H0 D cy ad kd NP nL cells slots Q G (pc + 3) lv (.int (G q 9) :: rest)) : xX p l e R s m args below meth c A H0 D cy ad kd NP nL cells slots Q G pc lv (.ref (ad q) :: rest) :=
  xgetB C (ci := 4) (T := TX4) ho rfl rfl inlX4 9 (by decide) rfl hlink d k
theorem xp_4_debt (C : xC p s m args meth c cc own nL rt D cy) {q index : Nat} {v : Int32} (ho : xO kd NP 4 q) (hlink : Cond.fieldLink own index "HedgeChains$Land" "debt" "I" ∈ xAllW) (d : decode cc pc = .ok (.putfield index, 3)) (k : xX p l e R s m args below meth c A H0 D cy ad kd NP nL cells slots Q (mset G q 9 v) (pc + 3) lv rest) : xX p l e R s m args below meth c A H0 D cy ad kd NP nL cells slots Q G pc lv (.int v :: .ref (ad q) :: rest) :=
  xputB C (ci := 4) (T := TX4) (ty := .int) ho rfl rfl inlX4 tyX4 tyX4_ok nmX4 9 (by decide) (by exact Nat.le_of_ble_eq_true rfl) rfl (by decide +kernel) (by exact vp_nar_int v) rfl (by simp [kE, mset, mrow, upd]) hlink d k
theorem xgN_4_debt (C : xC p s m args meth c cc own nL rt D cy) {q index : Nat} (ho : xO kd NP 4 q) (hlink : (own, index, "HedgeChains$Land", "debt", "I") ∈ xNF) (d : decode cc pc = .ok (.getfield index, 3)) (k : xX p l e R s m args below meth c A H0 D cy ad kd NP nL cells slots Q G (pc + 3) lv (.int (G q 9) :: rest)) : xX p l e R s m args below meth c A H0 D cy ad kd NP nL cells slots Q G pc lv (.ref (ad q) :: rest) :=
  xgetBN C (ci := 4) (T := TX4) ho rfl rfl inlX4 9 (by decide) rfl hlink d k
theorem xpN_4_debt (C : xC p s m args meth c cc own nL rt D cy) {q index : Nat} {v : Int32} (ho : xO kd NP 4 q) (hlink : (own, index, "HedgeChains$Land", "debt", "I") ∈ xNF) (d : decode cc pc = .ok (.putfield index, 3)) (k : xX p l e R s m args below meth c A H0 D cy ad kd NP nL cells slots Q (mset G q 9 v) (pc + 3) lv rest) : xX p l e R s m args below meth c A H0 D cy ad kd NP nL cells slots Q G pc lv (.int v :: .ref (ad q) :: rest) :=
  xputBN C (ci := 4) (T := TX4) (ty := .int) ho rfl rfl inlX4 tyX4 tyX4_ok nmX4 9 (by decide) (by exact Nat.le_of_ble_eq_true rfl) rfl (by decide +kernel) (by exact vp_nar_int v) rfl (by simp [kE, mset, mrow, upd]) hlink d k
theorem xg_4_earned (C : xC p s m args meth c cc own nL rt D cy) {q index : Nat} (ho : xO kd NP 4 q) (hlink : Cond.fieldLink own index "HedgeChains$Land" "earned" "I" ∈ xAllW) (d : decode cc pc = .ok (.getfield index, 3)) (k : xX p l e R s m args below meth c A H0 D cy ad kd NP nL cells slots Q G (pc + 3) lv (.int (G q 10) :: rest)) : xX p l e R s m args below meth c A H0 D cy ad kd NP nL cells slots Q G pc lv (.ref (ad q) :: rest) :=
  xgetB C (ci := 4) (T := TX4) ho rfl rfl inlX4 10 (by decide) rfl hlink d k
theorem xp_4_earned (C : xC p s m args meth c cc own nL rt D cy) {q index : Nat} {v : Int32} (ho : xO kd NP 4 q) (hlink : Cond.fieldLink own index "HedgeChains$Land" "earned" "I" ∈ xAllW) (d : decode cc pc = .ok (.putfield index, 3)) (k : xX p l e R s m args below meth c A H0 D cy ad kd NP nL cells slots Q (mset G q 10 v) (pc + 3) lv rest) : xX p l e R s m args below meth c A H0 D cy ad kd NP nL cells slots Q G pc lv (.int v :: .ref (ad q) :: rest) :=
  xputB C (ci := 4) (T := TX4) (ty := .int) ho rfl rfl inlX4 tyX4 tyX4_ok nmX4 10 (by decide) (by exact Nat.le_of_ble_eq_true rfl) rfl (by decide +kernel) (by exact vp_nar_int v) rfl (by simp [kE, mset, mrow, upd]) hlink d k
theorem xgN_4_earned (C : xC p s m args meth c cc own nL rt D cy) {q index : Nat} (ho : xO kd NP 4 q) (hlink : (own, index, "HedgeChains$Land", "earned", "I") ∈ xNF) (d : decode cc pc = .ok (.getfield index, 3)) (k : xX p l e R s m args below meth c A H0 D cy ad kd NP nL cells slots Q G (pc + 3) lv (.int (G q 10) :: rest)) : xX p l e R s m args below meth c A H0 D cy ad kd NP nL cells slots Q G pc lv (.ref (ad q) :: rest) :=
  xgetBN C (ci := 4) (T := TX4) ho rfl rfl inlX4 10 (by decide) rfl hlink d k
theorem xpN_4_earned (C : xC p s m args meth c cc own nL rt D cy) {q index : Nat} {v : Int32} (ho : xO kd NP 4 q) (hlink : (own, index, "HedgeChains$Land", "earned", "I") ∈ xNF) (d : decode cc pc = .ok (.putfield index, 3)) (k : xX p l e R s m args below meth c A H0 D cy ad kd NP nL cells slots Q (mset G q 10 v) (pc + 3) lv rest) : xX p l e R s m args below meth c A H0 D cy ad kd NP nL cells slots Q G pc lv (.int v :: .ref (ad q) :: rest) :=
  xputBN C (ci := 4) (T := TX4) (ty := .int) ho rfl rfl inlX4 tyX4 tyX4_ok nmX4 10 (by decide) (by exact Nat.le_of_ble_eq_true rfl) rfl (by decide +kernel) (by exact vp_nar_int v) rfl (by simp [kE, mset, mrow, upd]) hlink d k
theorem xg_4_fined (C : xC p s m args meth c cc own nL rt D cy) {q index : Nat} (ho : xO kd NP 4 q) (hlink : Cond.fieldLink own index "HedgeChains$Land" "fined" "I" ∈ xAllW) (d : decode cc pc = .ok (.getfield index, 3)) (k : xX p l e R s m args below meth c A H0 D cy ad kd NP nL cells slots Q G (pc + 3) lv (.int (G q 11) :: rest)) : xX p l e R s m args below meth c A H0 D cy ad kd NP nL cells slots Q G pc lv (.ref (ad q) :: rest) :=
  xgetB C (ci := 4) (T := TX4) ho rfl rfl inlX4 11 (by decide) rfl hlink d k
theorem xp_4_fined (C : xC p s m args meth c cc own nL rt D cy) {q index : Nat} {v : Int32} (ho : xO kd NP 4 q) (hlink : Cond.fieldLink own index "HedgeChains$Land" "fined" "I" ∈ xAllW) (d : decode cc pc = .ok (.putfield index, 3)) (k : xX p l e R s m args below meth c A H0 D cy ad kd NP nL cells slots Q (mset G q 11 v) (pc + 3) lv rest) : xX p l e R s m args below meth c A H0 D cy ad kd NP nL cells slots Q G pc lv (.int v :: .ref (ad q) :: rest) :=
  xputB C (ci := 4) (T := TX4) (ty := .int) ho rfl rfl inlX4 tyX4 tyX4_ok nmX4 11 (by decide) (by exact Nat.le_of_ble_eq_true rfl) rfl (by decide +kernel) (by exact vp_nar_int v) rfl (by simp [kE, mset, mrow, upd]) hlink d k
theorem xgN_4_fined (C : xC p s m args meth c cc own nL rt D cy) {q index : Nat} (ho : xO kd NP 4 q) (hlink : (own, index, "HedgeChains$Land", "fined", "I") ∈ xNF) (d : decode cc pc = .ok (.getfield index, 3)) (k : xX p l e R s m args below meth c A H0 D cy ad kd NP nL cells slots Q G (pc + 3) lv (.int (G q 11) :: rest)) : xX p l e R s m args below meth c A H0 D cy ad kd NP nL cells slots Q G pc lv (.ref (ad q) :: rest) :=
  xgetBN C (ci := 4) (T := TX4) ho rfl rfl inlX4 11 (by decide) rfl hlink d k
theorem xpN_4_fined (C : xC p s m args meth c cc own nL rt D cy) {q index : Nat} {v : Int32} (ho : xO kd NP 4 q) (hlink : (own, index, "HedgeChains$Land", "fined", "I") ∈ xNF) (d : decode cc pc = .ok (.putfield index, 3)) (k : xX p l e R s m args below meth c A H0 D cy ad kd NP nL cells slots Q (mset G q 11 v) (pc + 3) lv rest) : xX p l e R s m args below meth c A H0 D cy ad kd NP nL cells slots Q G pc lv (.int v :: .ref (ad q) :: rest) :=
  xputBN C (ci := 4) (T := TX4) (ty := .int) ho rfl rfl inlX4 tyX4 tyX4_ok nmX4 11 (by decide) (by exact Nat.le_of_ble_eq_true rfl) rfl (by decide +kernel) (by exact vp_nar_int v) rfl (by simp [kE, mset, mrow, upd]) hlink d k
theorem xg_4_laid (C : xC p s m args meth c cc own nL rt D cy) {q index : Nat} (ho : xO kd NP 4 q) (hlink : Cond.fieldLink own index "HedgeChains$Land" "laid" "I" ∈ xAllW) (d : decode cc pc = .ok (.getfield index, 3)) (k : xX p l e R s m args below meth c A H0 D cy ad kd NP nL cells slots Q G (pc + 3) lv (.int (G q 12) :: rest)) : xX p l e R s m args below meth c A H0 D cy ad kd NP nL cells slots Q G pc lv (.ref (ad q) :: rest) :=
  xgetB C (ci := 4) (T := TX4) ho rfl rfl inlX4 12 (by decide) rfl hlink d k
theorem xp_4_laid (C : xC p s m args meth c cc own nL rt D cy) {q index : Nat} {v : Int32} (ho : xO kd NP 4 q) (hlink : Cond.fieldLink own index "HedgeChains$Land" "laid" "I" ∈ xAllW) (d : decode cc pc = .ok (.putfield index, 3)) (k : xX p l e R s m args below meth c A H0 D cy ad kd NP nL cells slots Q (mset G q 12 v) (pc + 3) lv rest) : xX p l e R s m args below meth c A H0 D cy ad kd NP nL cells slots Q G pc lv (.int v :: .ref (ad q) :: rest) :=
  xputB C (ci := 4) (T := TX4) (ty := .int) ho rfl rfl inlX4 tyX4 tyX4_ok nmX4 12 (by decide) (by exact Nat.le_of_ble_eq_true rfl) rfl (by decide +kernel) (by exact vp_nar_int v) rfl (by simp [kE, mset, mrow, upd]) hlink d k
theorem xgN_4_laid (C : xC p s m args meth c cc own nL rt D cy) {q index : Nat} (ho : xO kd NP 4 q) (hlink : (own, index, "HedgeChains$Land", "laid", "I") ∈ xNF) (d : decode cc pc = .ok (.getfield index, 3)) (k : xX p l e R s m args below meth c A H0 D cy ad kd NP nL cells slots Q G (pc + 3) lv (.int (G q 12) :: rest)) : xX p l e R s m args below meth c A H0 D cy ad kd NP nL cells slots Q G pc lv (.ref (ad q) :: rest) :=
  xgetBN C (ci := 4) (T := TX4) ho rfl rfl inlX4 12 (by decide) rfl hlink d k
theorem xpN_4_laid (C : xC p s m args meth c cc own nL rt D cy) {q index : Nat} {v : Int32} (ho : xO kd NP 4 q) (hlink : (own, index, "HedgeChains$Land", "laid", "I") ∈ xNF) (d : decode cc pc = .ok (.putfield index, 3)) (k : xX p l e R s m args below meth c A H0 D cy ad kd NP nL cells slots Q (mset G q 12 v) (pc + 3) lv rest) : xX p l e R s m args below meth c A H0 D cy ad kd NP nL cells slots Q G pc lv (.int v :: .ref (ad q) :: rest) :=
  xputBN C (ci := 4) (T := TX4) (ty := .int) ho rfl rfl inlX4 tyX4 tyX4_ok nmX4 12 (by decide) (by exact Nat.le_of_ble_eq_true rfl) rfl (by decide +kernel) (by exact vp_nar_int v) rfl (by simp [kE, mset, mrow, upd]) hlink d k
theorem xg_4_planted (C : xC p s m args meth c cc own nL rt D cy) {q index : Nat} (ho : xO kd NP 4 q) (hlink : Cond.fieldLink own index "HedgeChains$Land" "planted" "I" ∈ xAllW) (d : decode cc pc = .ok (.getfield index, 3)) (k : xX p l e R s m args below meth c A H0 D cy ad kd NP nL cells slots Q G (pc + 3) lv (.int (G q 13) :: rest)) : xX p l e R s m args below meth c A H0 D cy ad kd NP nL cells slots Q G pc lv (.ref (ad q) :: rest) :=
  xgetB C (ci := 4) (T := TX4) ho rfl rfl inlX4 13 (by decide) rfl hlink d k
theorem xp_4_planted (C : xC p s m args meth c cc own nL rt D cy) {q index : Nat} {v : Int32} (ho : xO kd NP 4 q) (hlink : Cond.fieldLink own index "HedgeChains$Land" "planted" "I" ∈ xAllW) (d : decode cc pc = .ok (.putfield index, 3)) (k : xX p l e R s m args below meth c A H0 D cy ad kd NP nL cells slots Q (mset G q 13 v) (pc + 3) lv rest) : xX p l e R s m args below meth c A H0 D cy ad kd NP nL cells slots Q G pc lv (.int v :: .ref (ad q) :: rest) :=
  xputB C (ci := 4) (T := TX4) (ty := .int) ho rfl rfl inlX4 tyX4 tyX4_ok nmX4 13 (by decide) (by exact Nat.le_of_ble_eq_true rfl) rfl (by decide +kernel) (by exact vp_nar_int v) rfl (by simp [kE, mset, mrow, upd]) hlink d k
theorem xgN_4_planted (C : xC p s m args meth c cc own nL rt D cy) {q index : Nat} (ho : xO kd NP 4 q) (hlink : (own, index, "HedgeChains$Land", "planted", "I") ∈ xNF) (d : decode cc pc = .ok (.getfield index, 3)) (k : xX p l e R s m args below meth c A H0 D cy ad kd NP nL cells slots Q G (pc + 3) lv (.int (G q 13) :: rest)) : xX p l e R s m args below meth c A H0 D cy ad kd NP nL cells slots Q G pc lv (.ref (ad q) :: rest) :=
  xgetBN C (ci := 4) (T := TX4) ho rfl rfl inlX4 13 (by decide) rfl hlink d k
theorem xpN_4_planted (C : xC p s m args meth c cc own nL rt D cy) {q index : Nat} {v : Int32} (ho : xO kd NP 4 q) (hlink : (own, index, "HedgeChains$Land", "planted", "I") ∈ xNF) (d : decode cc pc = .ok (.putfield index, 3)) (k : xX p l e R s m args below meth c A H0 D cy ad kd NP nL cells slots Q (mset G q 13 v) (pc + 3) lv rest) : xX p l e R s m args below meth c A H0 D cy ad kd NP nL cells slots Q G pc lv (.int v :: .ref (ad q) :: rest) :=
  xputBN C (ci := 4) (T := TX4) (ty := .int) ho rfl rfl inlX4 tyX4 tyX4_ok nmX4 13 (by decide) (by exact Nat.le_of_ble_eq_true rfl) rfl (by decide +kernel) (by exact vp_nar_int v) rfl (by simp [kE, mset, mrow, upd]) hlink d k
theorem xg_5_weeks (C : xC p s m args meth c cc own nL rt D cy) {q index : Nat} (ho : xO kd NP 5 q) (hlink : Cond.fieldLink own index "HedgeChains$Orders" "weeks" "[I" ∈ xAllW) (d : decode cc pc = .ok (.getfield index, 3)) (k : xX p l e R s m args below meth c A H0 D cy ad kd NP nL cells slots Q G (pc + 3) lv (.ref (ad (q + 1)) :: rest)) : xX p l e R s m args below meth c A H0 D cy ad kd NP nL cells slots Q G pc lv (.ref (ad q) :: rest) :=
  xgetB C (ci := 5) (T := TX5) ho rfl rfl inlX5 0 (by decide) rfl hlink d k
theorem xgN_5_weeks (C : xC p s m args meth c cc own nL rt D cy) {q index : Nat} (ho : xO kd NP 5 q) (hlink : (own, index, "HedgeChains$Orders", "weeks", "[I") ∈ xNF) (d : decode cc pc = .ok (.getfield index, 3)) (k : xX p l e R s m args below meth c A H0 D cy ad kd NP nL cells slots Q G (pc + 3) lv (.ref (ad (q + 1)) :: rest)) : xX p l e R s m args below meth c A H0 D cy ad kd NP nL cells slots Q G pc lv (.ref (ad q) :: rest) :=
  xgetBN C (ci := 5) (T := TX5) ho rfl rfl inlX5 0 (by decide) rfl hlink d k
theorem xg_5_lastWeeks (C : xC p s m args meth c cc own nL rt D cy) {q index : Nat} (ho : xO kd NP 5 q) (hlink : Cond.fieldLink own index "HedgeChains$Orders" "lastWeeks" "[I" ∈ xAllW) (d : decode cc pc = .ok (.getfield index, 3)) (k : xX p l e R s m args below meth c A H0 D cy ad kd NP nL cells slots Q G (pc + 3) lv (.ref (ad (q + 2)) :: rest)) : xX p l e R s m args below meth c A H0 D cy ad kd NP nL cells slots Q G pc lv (.ref (ad q) :: rest) :=
  xgetB C (ci := 5) (T := TX5) ho rfl rfl inlX5 1 (by decide) rfl hlink d k
theorem xgN_5_lastWeeks (C : xC p s m args meth c cc own nL rt D cy) {q index : Nat} (ho : xO kd NP 5 q) (hlink : (own, index, "HedgeChains$Orders", "lastWeeks", "[I") ∈ xNF) (d : decode cc pc = .ok (.getfield index, 3)) (k : xX p l e R s m args below meth c A H0 D cy ad kd NP nL cells slots Q G (pc + 3) lv (.ref (ad (q + 2)) :: rest)) : xX p l e R s m args below meth c A H0 D cy ad kd NP nL cells slots Q G pc lv (.ref (ad q) :: rest) :=
  xgetBN C (ci := 5) (T := TX5) ho rfl rfl inlX5 1 (by decide) rfl hlink d k
theorem xg_5_finesPerWeek (C : xC p s m args meth c cc own nL rt D cy) {q index : Nat} (ho : xO kd NP 5 q) (hlink : Cond.fieldLink own index "HedgeChains$Orders" "finesPerWeek" "[I" ∈ xAllW) (d : decode cc pc = .ok (.getfield index, 3)) (k : xX p l e R s m args below meth c A H0 D cy ad kd NP nL cells slots Q G (pc + 3) lv (.ref (ad (q + 3)) :: rest)) : xX p l e R s m args below meth c A H0 D cy ad kd NP nL cells slots Q G pc lv (.ref (ad q) :: rest) :=
  xgetB C (ci := 5) (T := TX5) ho rfl rfl inlX5 2 (by decide) rfl hlink d k
theorem xgN_5_finesPerWeek (C : xC p s m args meth c cc own nL rt D cy) {q index : Nat} (ho : xO kd NP 5 q) (hlink : (own, index, "HedgeChains$Orders", "finesPerWeek", "[I") ∈ xNF) (d : decode cc pc = .ok (.getfield index, 3)) (k : xX p l e R s m args below meth c A H0 D cy ad kd NP nL cells slots Q G (pc + 3) lv (.ref (ad (q + 3)) :: rest)) : xX p l e R s m args below meth c A H0 D cy ad kd NP nL cells slots Q G pc lv (.ref (ad q) :: rest) :=
  xgetBN C (ci := 5) (T := TX5) ho rfl rfl inlX5 2 (by decide) rfl hlink d k
theorem xg_5_least (C : xC p s m args meth c cc own nL rt D cy) {q index : Nat} (ho : xO kd NP 5 q) (hlink : Cond.fieldLink own index "HedgeChains$Orders" "least" "[I" ∈ xAllW) (d : decode cc pc = .ok (.getfield index, 3)) (k : xX p l e R s m args below meth c A H0 D cy ad kd NP nL cells slots Q G (pc + 3) lv (.ref (ad (q + 4)) :: rest)) : xX p l e R s m args below meth c A H0 D cy ad kd NP nL cells slots Q G pc lv (.ref (ad q) :: rest) :=
  xgetB C (ci := 5) (T := TX5) ho rfl rfl inlX5 3 (by decide) rfl hlink d k
theorem xgN_5_least (C : xC p s m args meth c cc own nL rt D cy) {q index : Nat} (ho : xO kd NP 5 q) (hlink : (own, index, "HedgeChains$Orders", "least", "[I") ∈ xNF) (d : decode cc pc = .ok (.getfield index, 3)) (k : xX p l e R s m args below meth c A H0 D cy ad kd NP nL cells slots Q G (pc + 3) lv (.ref (ad (q + 4)) :: rest)) : xX p l e R s m args below meth c A H0 D cy ad kd NP nL cells slots Q G pc lv (.ref (ad q) :: rest) :=
  xgetBN C (ci := 5) (T := TX5) ho rfl rfl inlX5 3 (by decide) rfl hlink d k
theorem xg_5_all (C : xC p s m args meth c cc own nL rt D cy) {q index : Nat} (ho : xO kd NP 5 q) (hlink : Cond.fieldLink own index "HedgeChains$Orders" "all" "I" ∈ xAllW) (d : decode cc pc = .ok (.getfield index, 3)) (k : xX p l e R s m args below meth c A H0 D cy ad kd NP nL cells slots Q G (pc + 3) lv (.int (G q 4) :: rest)) : xX p l e R s m args below meth c A H0 D cy ad kd NP nL cells slots Q G pc lv (.ref (ad q) :: rest) :=
  xgetB C (ci := 5) (T := TX5) ho rfl rfl inlX5 4 (by decide) rfl hlink d k
theorem xp_5_all (C : xC p s m args meth c cc own nL rt D cy) {q index : Nat} {v : Int32} (ho : xO kd NP 5 q) (hlink : Cond.fieldLink own index "HedgeChains$Orders" "all" "I" ∈ xAllW) (d : decode cc pc = .ok (.putfield index, 3)) (k : xX p l e R s m args below meth c A H0 D cy ad kd NP nL cells slots Q (mset G q 4 v) (pc + 3) lv rest) : xX p l e R s m args below meth c A H0 D cy ad kd NP nL cells slots Q G pc lv (.int v :: .ref (ad q) :: rest) :=
  xputB C (ci := 5) (T := TX5) (ty := .int) ho rfl rfl inlX5 tyX5 tyX5_ok nmX5 4 (by decide) (by exact Nat.le_of_ble_eq_true rfl) rfl (by decide +kernel) (by exact vp_nar_int v) rfl (by simp [kE, mset, mrow, upd]) hlink d k
theorem xgN_5_all (C : xC p s m args meth c cc own nL rt D cy) {q index : Nat} (ho : xO kd NP 5 q) (hlink : (own, index, "HedgeChains$Orders", "all", "I") ∈ xNF) (d : decode cc pc = .ok (.getfield index, 3)) (k : xX p l e R s m args below meth c A H0 D cy ad kd NP nL cells slots Q G (pc + 3) lv (.int (G q 4) :: rest)) : xX p l e R s m args below meth c A H0 D cy ad kd NP nL cells slots Q G pc lv (.ref (ad q) :: rest) :=
  xgetBN C (ci := 5) (T := TX5) ho rfl rfl inlX5 4 (by decide) rfl hlink d k
theorem xpN_5_all (C : xC p s m args meth c cc own nL rt D cy) {q index : Nat} {v : Int32} (ho : xO kd NP 5 q) (hlink : (own, index, "HedgeChains$Orders", "all", "I") ∈ xNF) (d : decode cc pc = .ok (.putfield index, 3)) (k : xX p l e R s m args below meth c A H0 D cy ad kd NP nL cells slots Q (mset G q 4 v) (pc + 3) lv rest) : xX p l e R s m args below meth c A H0 D cy ad kd NP nL cells slots Q G pc lv (.int v :: .ref (ad q) :: rest) :=
  xputBN C (ci := 5) (T := TX5) (ty := .int) ho rfl rfl inlX5 tyX5 tyX5_ok nmX5 4 (by decide) (by exact Nat.le_of_ble_eq_true rfl) rfl (by decide +kernel) (by exact vp_nar_int v) rfl (by simp [kE, mset, mrow, upd]) hlink d k
theorem xg_5_presentWeek (C : xC p s m args meth c cc own nL rt D cy) {q index : Nat} (ho : xO kd NP 5 q) (hlink : Cond.fieldLink own index "HedgeChains$Orders" "presentWeek" "I" ∈ xAllW) (d : decode cc pc = .ok (.getfield index, 3)) (k : xX p l e R s m args below meth c A H0 D cy ad kd NP nL cells slots Q G (pc + 3) lv (.int (G q 5) :: rest)) : xX p l e R s m args below meth c A H0 D cy ad kd NP nL cells slots Q G pc lv (.ref (ad q) :: rest) :=
  xgetB C (ci := 5) (T := TX5) ho rfl rfl inlX5 5 (by decide) rfl hlink d k
theorem xp_5_presentWeek (C : xC p s m args meth c cc own nL rt D cy) {q index : Nat} {v : Int32} (ho : xO kd NP 5 q) (hlink : Cond.fieldLink own index "HedgeChains$Orders" "presentWeek" "I" ∈ xAllW) (d : decode cc pc = .ok (.putfield index, 3)) (k : xX p l e R s m args below meth c A H0 D cy ad kd NP nL cells slots Q (mset G q 5 v) (pc + 3) lv rest) : xX p l e R s m args below meth c A H0 D cy ad kd NP nL cells slots Q G pc lv (.int v :: .ref (ad q) :: rest) :=
  xputB C (ci := 5) (T := TX5) (ty := .int) ho rfl rfl inlX5 tyX5 tyX5_ok nmX5 5 (by decide) (by exact Nat.le_of_ble_eq_true rfl) rfl (by decide +kernel) (by exact vp_nar_int v) rfl (by simp [kE, mset, mrow, upd]) hlink d k
theorem xgN_5_presentWeek (C : xC p s m args meth c cc own nL rt D cy) {q index : Nat} (ho : xO kd NP 5 q) (hlink : (own, index, "HedgeChains$Orders", "presentWeek", "I") ∈ xNF) (d : decode cc pc = .ok (.getfield index, 3)) (k : xX p l e R s m args below meth c A H0 D cy ad kd NP nL cells slots Q G (pc + 3) lv (.int (G q 5) :: rest)) : xX p l e R s m args below meth c A H0 D cy ad kd NP nL cells slots Q G pc lv (.ref (ad q) :: rest) :=
  xgetBN C (ci := 5) (T := TX5) ho rfl rfl inlX5 5 (by decide) rfl hlink d k
theorem xpN_5_presentWeek (C : xC p s m args meth c cc own nL rt D cy) {q index : Nat} {v : Int32} (ho : xO kd NP 5 q) (hlink : (own, index, "HedgeChains$Orders", "presentWeek", "I") ∈ xNF) (d : decode cc pc = .ok (.putfield index, 3)) (k : xX p l e R s m args below meth c A H0 D cy ad kd NP nL cells slots Q (mset G q 5 v) (pc + 3) lv rest) : xX p l e R s m args below meth c A H0 D cy ad kd NP nL cells slots Q G pc lv (.int v :: .ref (ad q) :: rest) :=
  xputBN C (ci := 5) (T := TX5) (ty := .int) ho rfl rfl inlX5 tyX5 tyX5_ok nmX5 5 (by decide) (by exact Nat.le_of_ble_eq_true rfl) rfl (by decide +kernel) (by exact vp_nar_int v) rfl (by simp [kE, mset, mrow, upd]) hlink d k
theorem xg_6_land (C : xC p s m args meth c cc own nL rt D cy) {q index : Nat} (ho : xO kd NP 6 q) (hlink : Cond.fieldLink own index "HedgeChains$State" "land" "LHedgeChains$Land;" ∈ xAllW) (d : decode cc pc = .ok (.getfield index, 3)) (k : xX p l e R s m args below meth c A H0 D cy ad kd NP nL cells slots Q G (pc + 3) lv (.ref (ad (q + 1)) :: rest)) : xX p l e R s m args below meth c A H0 D cy ad kd NP nL cells slots Q G pc lv (.ref (ad q) :: rest) :=
  xgetB C (ci := 6) (T := TX6) ho rfl rfl inlX6 0 (by decide) rfl hlink d k
theorem xgN_6_land (C : xC p s m args meth c cc own nL rt D cy) {q index : Nat} (ho : xO kd NP 6 q) (hlink : (own, index, "HedgeChains$State", "land", "LHedgeChains$Land;") ∈ xNF) (d : decode cc pc = .ok (.getfield index, 3)) (k : xX p l e R s m args below meth c A H0 D cy ad kd NP nL cells slots Q G (pc + 3) lv (.ref (ad (q + 1)) :: rest)) : xX p l e R s m args below meth c A H0 D cy ad kd NP nL cells slots Q G pc lv (.ref (ad q) :: rest) :=
  xgetBN C (ci := 6) (T := TX6) ho rfl rfl inlX6 0 (by decide) rfl hlink d k
theorem xg_6_slots (C : xC p s m args meth c cc own nL rt D cy) {q index : Nat} (ho : xO kd NP 6 q) (hlink : Cond.fieldLink own index "HedgeChains$State" "slots" "[LHedgeChains$Land;" ∈ xAllW) (d : decode cc pc = .ok (.getfield index, 3)) (k : xX p l e R s m args below meth c A H0 D cy ad kd NP nL cells slots Q G (pc + 3) lv (.ref (ad (q + 34)) :: rest)) : xX p l e R s m args below meth c A H0 D cy ad kd NP nL cells slots Q G pc lv (.ref (ad q) :: rest) :=
  xgetB C (ci := 6) (T := TX6) ho rfl rfl inlX6 1 (by decide) rfl hlink d k
theorem xgN_6_slots (C : xC p s m args meth c cc own nL rt D cy) {q index : Nat} (ho : xO kd NP 6 q) (hlink : (own, index, "HedgeChains$State", "slots", "[LHedgeChains$Land;") ∈ xNF) (d : decode cc pc = .ok (.getfield index, 3)) (k : xX p l e R s m args below meth c A H0 D cy ad kd NP nL cells slots Q G (pc + 3) lv (.ref (ad (q + 34)) :: rest)) : xX p l e R s m args below meth c A H0 D cy ad kd NP nL cells slots Q G pc lv (.ref (ad q) :: rest) :=
  xgetBN C (ci := 6) (T := TX6) ho rfl rfl inlX6 1 (by decide) rfl hlink d k
theorem xg_6_filled (C : xC p s m args meth c cc own nL rt D cy) {q index : Nat} (ho : xO kd NP 6 q) (hlink : Cond.fieldLink own index "HedgeChains$State" "filled" "[Z" ∈ xAllW) (d : decode cc pc = .ok (.getfield index, 3)) (k : xX p l e R s m args below meth c A H0 D cy ad kd NP nL cells slots Q G (pc + 3) lv (.ref (ad (q + 35)) :: rest)) : xX p l e R s m args below meth c A H0 D cy ad kd NP nL cells slots Q G pc lv (.ref (ad q) :: rest) :=
  xgetB C (ci := 6) (T := TX6) ho rfl rfl inlX6 2 (by decide) rfl hlink d k
theorem xgN_6_filled (C : xC p s m args meth c cc own nL rt D cy) {q index : Nat} (ho : xO kd NP 6 q) (hlink : (own, index, "HedgeChains$State", "filled", "[Z") ∈ xNF) (d : decode cc pc = .ok (.getfield index, 3)) (k : xX p l e R s m args below meth c A H0 D cy ad kd NP nL cells slots Q G (pc + 3) lv (.ref (ad (q + 35)) :: rest)) : xX p l e R s m args below meth c A H0 D cy ad kd NP nL cells slots Q G pc lv (.ref (ad q) :: rest) :=
  xgetBN C (ci := 6) (T := TX6) ho rfl rfl inlX6 2 (by decide) rfl hlink d k
theorem xg_7_signs (C : xC p s m args meth c cc own nL rt D cy) {q index : Nat} (ho : xO kd NP 7 q) (hlink : Cond.fieldLink own index "HedgeChains$Text" "signs" "[C" ∈ xAllW) (d : decode cc pc = .ok (.getfield index, 3)) (k : xX p l e R s m args below meth c A H0 D cy ad kd NP nL cells slots Q G (pc + 3) lv (.ref (ad (q + 1)) :: rest)) : xX p l e R s m args below meth c A H0 D cy ad kd NP nL cells slots Q G pc lv (.ref (ad q) :: rest) :=
  xgetB C (ci := 7) (T := TX7) ho rfl rfl inlX7 0 (by decide) rfl hlink d k
theorem xgN_7_signs (C : xC p s m args meth c cc own nL rt D cy) {q index : Nat} (ho : xO kd NP 7 q) (hlink : (own, index, "HedgeChains$Text", "signs", "[C") ∈ xNF) (d : decode cc pc = .ok (.getfield index, 3)) (k : xX p l e R s m args below meth c A H0 D cy ad kd NP nL cells slots Q G (pc + 3) lv (.ref (ad (q + 1)) :: rest)) : xX p l e R s m args below meth c A H0 D cy ad kd NP nL cells slots Q G pc lv (.ref (ad q) :: rest) :=
  xgetBN C (ci := 7) (T := TX7) ho rfl rfl inlX7 0 (by decide) rfl hlink d k
theorem xg_7_length (C : xC p s m args meth c cc own nL rt D cy) {q index : Nat} (ho : xO kd NP 7 q) (hlink : Cond.fieldLink own index "HedgeChains$Text" "length" "I" ∈ xAllW) (d : decode cc pc = .ok (.getfield index, 3)) (k : xX p l e R s m args below meth c A H0 D cy ad kd NP nL cells slots Q G (pc + 3) lv (.int (G q 1) :: rest)) : xX p l e R s m args below meth c A H0 D cy ad kd NP nL cells slots Q G pc lv (.ref (ad q) :: rest) :=
  xgetB C (ci := 7) (T := TX7) ho rfl rfl inlX7 1 (by decide) rfl hlink d k
theorem xp_7_length (C : xC p s m args meth c cc own nL rt D cy) {q index : Nat} {v : Int32} (ho : xO kd NP 7 q) (hlink : Cond.fieldLink own index "HedgeChains$Text" "length" "I" ∈ xAllW) (d : decode cc pc = .ok (.putfield index, 3)) (k : xX p l e R s m args below meth c A H0 D cy ad kd NP nL cells slots Q (mset G q 1 v) (pc + 3) lv rest) : xX p l e R s m args below meth c A H0 D cy ad kd NP nL cells slots Q G pc lv (.int v :: .ref (ad q) :: rest) :=
  xputB C (ci := 7) (T := TX7) (ty := .int) ho rfl rfl inlX7 tyX7 tyX7_ok nmX7 1 (by decide) (by exact Nat.le_of_ble_eq_true rfl) rfl (by decide +kernel) (by exact vp_nar_int v) rfl (by simp [kE, mset, mrow, upd]) hlink d k
theorem xgN_7_length (C : xC p s m args meth c cc own nL rt D cy) {q index : Nat} (ho : xO kd NP 7 q) (hlink : (own, index, "HedgeChains$Text", "length", "I") ∈ xNF) (d : decode cc pc = .ok (.getfield index, 3)) (k : xX p l e R s m args below meth c A H0 D cy ad kd NP nL cells slots Q G (pc + 3) lv (.int (G q 1) :: rest)) : xX p l e R s m args below meth c A H0 D cy ad kd NP nL cells slots Q G pc lv (.ref (ad q) :: rest) :=
  xgetBN C (ci := 7) (T := TX7) ho rfl rfl inlX7 1 (by decide) rfl hlink d k
theorem xpN_7_length (C : xC p s m args meth c cc own nL rt D cy) {q index : Nat} {v : Int32} (ho : xO kd NP 7 q) (hlink : (own, index, "HedgeChains$Text", "length", "I") ∈ xNF) (d : decode cc pc = .ok (.putfield index, 3)) (k : xX p l e R s m args below meth c A H0 D cy ad kd NP nL cells slots Q (mset G q 1 v) (pc + 3) lv rest) : xX p l e R s m args below meth c A H0 D cy ad kd NP nL cells slots Q G pc lv (.int v :: .ref (ad q) :: rest) :=
  xputBN C (ci := 7) (T := TX7) (ty := .int) ho rfl rfl inlX7 tyX7 tyX7_ok nmX7 1 (by decide) (by exact Nat.le_of_ble_eq_true rfl) rfl (by decide +kernel) (by exact vp_nar_int v) rfl (by simp [kE, mset, mrow, upd]) hlink d k
theorem xg_8_state (C : xC p s m args meth c cc own nL rt D cy) {q index : Nat} (ho : xO kd NP 8 q) (hlink : Cond.fieldLink own index "HedgeChains" "state" "LHedgeChains$State;" ∈ xAllW) (d : decode cc pc = .ok (.getfield index, 3)) (k : xX p l e R s m args below meth c A H0 D cy ad kd NP nL cells slots Q G (pc + 3) lv (.ref (ad (q + 1)) :: rest)) : xX p l e R s m args below meth c A H0 D cy ad kd NP nL cells slots Q G pc lv (.ref (ad q) :: rest) :=
  xgetB C (ci := 8) (T := TX8) ho rfl rfl inlX8 0 (by decide) rfl hlink d k
theorem xg_8_land (C : xC p s m args meth c cc own nL rt D cy) {q index : Nat} (ho : xO kd NP 8 q) (hlink : Cond.fieldLink own index "HedgeChains" "land" "LHedgeChains$Land;" ∈ xAllW) (d : decode cc pc = .ok (.getfield index, 3)) (k : xX p l e R s m args below meth c A H0 D cy ad kd NP nL cells slots Q G (pc + 3) lv (.ref (ad (q + 2)) :: rest)) : xX p l e R s m args below meth c A H0 D cy ad kd NP nL cells slots Q G pc lv (.ref (ad q) :: rest) :=
  xgetB C (ci := 8) (T := TX8) ho rfl rfl inlX8 1 (by decide) rfl hlink d k
theorem xg_8_history (C : xC p s m args meth c cc own nL rt D cy) {q index : Nat} (ho : xO kd NP 8 q) (hlink : Cond.fieldLink own index "HedgeChains" "history" "LHedgeChains$History;" ∈ xAllW) (d : decode cc pc = .ok (.getfield index, 3)) (k : xX p l e R s m args below meth c A H0 D cy ad kd NP nL cells slots Q G (pc + 3) lv (.ref (ad (q + 103)) :: rest)) : xX p l e R s m args below meth c A H0 D cy ad kd NP nL cells slots Q G pc lv (.ref (ad q) :: rest) :=
  xgetB C (ci := 8) (T := TX8) ho rfl rfl inlX8 2 (by decide) rfl hlink d k
theorem xg_8_text (C : xC p s m args meth c cc own nL rt D cy) {q index : Nat} (ho : xO kd NP 8 q) (hlink : Cond.fieldLink own index "HedgeChains" "text" "LHedgeChains$Text;" ∈ xAllW) (d : decode cc pc = .ok (.getfield index, 3)) (k : xX p l e R s m args below meth c A H0 D cy ad kd NP nL cells slots Q G (pc + 3) lv (.ref (ad (q + 615)) :: rest)) : xX p l e R s m args below meth c A H0 D cy ad kd NP nL cells slots Q G pc lv (.ref (ad q) :: rest) :=
  xgetB C (ci := 8) (T := TX8) ho rfl rfl inlX8 3 (by decide) rfl hlink d k
theorem xg_8_reader (C : xC p s m args meth c cc own nL rt D cy) {q index : Nat} (ho : xO kd NP 8 q) (hlink : Cond.fieldLink own index "HedgeChains" "reader" "LHedgeChains$HedgeReader;" ∈ xAllW) (d : decode cc pc = .ok (.getfield index, 3)) (k : xX p l e R s m args below meth c A H0 D cy ad kd NP nL cells slots Q G (pc + 3) lv (.ref (ad (q + 617)) :: rest)) : xX p l e R s m args below meth c A H0 D cy ad kd NP nL cells slots Q G pc lv (.ref (ad q) :: rest) :=
  xgetB C (ci := 8) (T := TX8) ho rfl rfl inlX8 4 (by decide) rfl hlink d k
theorem xg_8_orders (C : xC p s m args meth c cc own nL rt D cy) {q index : Nat} (ho : xO kd NP 8 q) (hlink : Cond.fieldLink own index "HedgeChains" "orders" "LHedgeChains$Orders;" ∈ xAllW) (d : decode cc pc = .ok (.getfield index, 3)) (k : xX p l e R s m args below meth c A H0 D cy ad kd NP nL cells slots Q G (pc + 3) lv (.ref (ad (q + 622)) :: rest)) : xX p l e R s m args below meth c A H0 D cy ad kd NP nL cells slots Q G pc lv (.ref (ad q) :: rest) :=
  xgetB C (ci := 8) (T := TX8) ho rfl rfl inlX8 5 (by decide) rfl hlink d k
theorem xg_9_s (C : xC p s m args meth c cc own nL rt D cy) {q index : Nat} (ho : xO kd NP 9 q) (hlink : Cond.fieldLink own index "HedgeChainsModel" "s" "[I" ∈ xAllW) (d : decode cc pc = .ok (.getfield index, 3)) (k : xX p l e R s m args below meth c A H0 D cy ad kd NP nL cells slots Q G (pc + 3) lv (.ref (ad (q + 1)) :: rest)) : xX p l e R s m args below meth c A H0 D cy ad kd NP nL cells slots Q G pc lv (.ref (ad q) :: rest) :=
  xgetB C (ci := 9) (T := TX9) ho rfl rfl inlX9 0 (by decide) rfl hlink d k
theorem xg_9_was (C : xC p s m args meth c cc own nL rt D cy) {q index : Nat} (ho : xO kd NP 9 q) (hlink : Cond.fieldLink own index "HedgeChainsModel" "was" "[I" ∈ xAllW) (d : decode cc pc = .ok (.getfield index, 3)) (k : xX p l e R s m args below meth c A H0 D cy ad kd NP nL cells slots Q G (pc + 3) lv (.ref (ad (q + 2)) :: rest)) : xX p l e R s m args below meth c A H0 D cy ad kd NP nL cells slots Q G pc lv (.ref (ad q) :: rest) :=
  xgetB C (ci := 9) (T := TX9) ho rfl rfl inlX9 1 (by decide) rfl hlink d k
theorem xg_9_begun (C : xC p s m args meth c cc own nL rt D cy) {q index : Nat} (ho : xO kd NP 9 q) (hlink : Cond.fieldLink own index "HedgeChainsModel" "begun" "[I" ∈ xAllW) (d : decode cc pc = .ok (.getfield index, 3)) (k : xX p l e R s m args below meth c A H0 D cy ad kd NP nL cells slots Q G (pc + 3) lv (.ref (ad (q + 3)) :: rest)) : xX p l e R s m args below meth c A H0 D cy ad kd NP nL cells slots Q G pc lv (.ref (ad q) :: rest) :=
  xgetB C (ci := 9) (T := TX9) ho rfl rfl inlX9 2 (by decide) rfl hlink d k
theorem xg_9_least (C : xC p s m args meth c cc own nL rt D cy) {q index : Nat} (ho : xO kd NP 9 q) (hlink : Cond.fieldLink own index "HedgeChainsModel" "least" "[I" ∈ xAllW) (d : decode cc pc = .ok (.getfield index, 3)) (k : xX p l e R s m args below meth c A H0 D cy ad kd NP nL cells slots Q G (pc + 3) lv (.ref (ad (q + 4)) :: rest)) : xX p l e R s m args below meth c A H0 D cy ad kd NP nL cells slots Q G pc lv (.ref (ad q) :: rest) :=
  xgetB C (ci := 9) (T := TX9) ho rfl rfl inlX9 3 (by decide) rfl hlink d k
theorem xg_9_states (C : xC p s m args meth c cc own nL rt D cy) {q index : Nat} (ho : xO kd NP 9 q) (hlink : Cond.fieldLink own index "HedgeChainsModel" "states" "I" ∈ xAllW) (d : decode cc pc = .ok (.getfield index, 3)) (k : xX p l e R s m args below meth c A H0 D cy ad kd NP nL cells slots Q G (pc + 3) lv (.int (G q 4) :: rest)) : xX p l e R s m args below meth c A H0 D cy ad kd NP nL cells slots Q G pc lv (.ref (ad q) :: rest) :=
  xgetB C (ci := 9) (T := TX9) ho rfl rfl inlX9 4 (by decide) rfl hlink d k
theorem xp_9_states (C : xC p s m args meth c cc own nL rt D cy) {q index : Nat} {v : Int32} (ho : xO kd NP 9 q) (hlink : Cond.fieldLink own index "HedgeChainsModel" "states" "I" ∈ xAllW) (d : decode cc pc = .ok (.putfield index, 3)) (k : xX p l e R s m args below meth c A H0 D cy ad kd NP nL cells slots Q (mset G q 4 v) (pc + 3) lv rest) : xX p l e R s m args below meth c A H0 D cy ad kd NP nL cells slots Q G pc lv (.int v :: .ref (ad q) :: rest) :=
  xputB C (ci := 9) (T := TX9) (ty := .int) ho rfl rfl inlX9 tyX9 tyX9_ok nmX9 4 (by decide) (by exact Nat.le_of_ble_eq_true rfl) rfl (by decide +kernel) (by exact vp_nar_int v) rfl (by simp [kE, mset, mrow, upd]) hlink d k
theorem xg_9_text (C : xC p s m args meth c cc own nL rt D cy) {q index : Nat} (ho : xO kd NP 9 q) (hlink : Cond.fieldLink own index "HedgeChainsModel" "text" "[I" ∈ xAllW) (d : decode cc pc = .ok (.getfield index, 3)) (k : xX p l e R s m args below meth c A H0 D cy ad kd NP nL cells slots Q G (pc + 3) lv (.ref (ad (q + 5)) :: rest)) : xX p l e R s m args below meth c A H0 D cy ad kd NP nL cells slots Q G pc lv (.ref (ad q) :: rest) :=
  xgetB C (ci := 9) (T := TX9) ho rfl rfl inlX9 5 (by decide) rfl hlink d k
theorem xg_9_typed (C : xC p s m args meth c cc own nL rt D cy) {q index : Nat} (ho : xO kd NP 9 q) (hlink : Cond.fieldLink own index "HedgeChainsModel" "typed" "I" ∈ xAllW) (d : decode cc pc = .ok (.getfield index, 3)) (k : xX p l e R s m args below meth c A H0 D cy ad kd NP nL cells slots Q G (pc + 3) lv (.int (G q 6) :: rest)) : xX p l e R s m args below meth c A H0 D cy ad kd NP nL cells slots Q G pc lv (.ref (ad q) :: rest) :=
  xgetB C (ci := 9) (T := TX9) ho rfl rfl inlX9 6 (by decide) rfl hlink d k
theorem xp_9_typed (C : xC p s m args meth c cc own nL rt D cy) {q index : Nat} {v : Int32} (ho : xO kd NP 9 q) (hlink : Cond.fieldLink own index "HedgeChainsModel" "typed" "I" ∈ xAllW) (d : decode cc pc = .ok (.putfield index, 3)) (k : xX p l e R s m args below meth c A H0 D cy ad kd NP nL cells slots Q (mset G q 6 v) (pc + 3) lv rest) : xX p l e R s m args below meth c A H0 D cy ad kd NP nL cells slots Q G pc lv (.int v :: .ref (ad q) :: rest) :=
  xputB C (ci := 9) (T := TX9) (ty := .int) ho rfl rfl inlX9 tyX9 tyX9_ok nmX9 6 (by decide) (by exact Nat.le_of_ble_eq_true rfl) rfl (by decide +kernel) (by exact vp_nar_int v) rfl (by simp [kE, mset, mrow, upd]) hlink d k
theorem xg_9_at (C : xC p s m args meth c cc own nL rt D cy) {q index : Nat} (ho : xO kd NP 9 q) (hlink : Cond.fieldLink own index "HedgeChainsModel" "at" "I" ∈ xAllW) (d : decode cc pc = .ok (.getfield index, 3)) (k : xX p l e R s m args below meth c A H0 D cy ad kd NP nL cells slots Q G (pc + 3) lv (.int (G q 7) :: rest)) : xX p l e R s m args below meth c A H0 D cy ad kd NP nL cells slots Q G pc lv (.ref (ad q) :: rest) :=
  xgetB C (ci := 9) (T := TX9) ho rfl rfl inlX9 7 (by decide) rfl hlink d k
theorem xp_9_at (C : xC p s m args meth c cc own nL rt D cy) {q index : Nat} {v : Int32} (ho : xO kd NP 9 q) (hlink : Cond.fieldLink own index "HedgeChainsModel" "at" "I" ∈ xAllW) (d : decode cc pc = .ok (.putfield index, 3)) (k : xX p l e R s m args below meth c A H0 D cy ad kd NP nL cells slots Q (mset G q 7 v) (pc + 3) lv rest) : xX p l e R s m args below meth c A H0 D cy ad kd NP nL cells slots Q G pc lv (.int v :: .ref (ad q) :: rest) :=
  xputB C (ci := 9) (T := TX9) (ty := .int) ho rfl rfl inlX9 tyX9 tyX9_ok nmX9 7 (by decide) (by exact Nat.le_of_ble_eq_true rfl) rfl (by decide +kernel) (by exact vp_nar_int v) rfl (by simp [kE, mset, mrow, upd]) hlink d k
theorem xg_9_kind (C : xC p s m args meth c cc own nL rt D cy) {q index : Nat} (ho : xO kd NP 9 q) (hlink : Cond.fieldLink own index "HedgeChainsModel" "kind" "I" ∈ xAllW) (d : decode cc pc = .ok (.getfield index, 3)) (k : xX p l e R s m args below meth c A H0 D cy ad kd NP nL cells slots Q G (pc + 3) lv (.int (G q 8) :: rest)) : xX p l e R s m args below meth c A H0 D cy ad kd NP nL cells slots Q G pc lv (.ref (ad q) :: rest) :=
  xgetB C (ci := 9) (T := TX9) ho rfl rfl inlX9 8 (by decide) rfl hlink d k
theorem xp_9_kind (C : xC p s m args meth c cc own nL rt D cy) {q index : Nat} {v : Int32} (ho : xO kd NP 9 q) (hlink : Cond.fieldLink own index "HedgeChainsModel" "kind" "I" ∈ xAllW) (d : decode cc pc = .ok (.putfield index, 3)) (k : xX p l e R s m args below meth c A H0 D cy ad kd NP nL cells slots Q (mset G q 8 v) (pc + 3) lv rest) : xX p l e R s m args below meth c A H0 D cy ad kd NP nL cells slots Q G pc lv (.int v :: .ref (ad q) :: rest) :=
  xputB C (ci := 9) (T := TX9) (ty := .int) ho rfl rfl inlX9 tyX9 tyX9_ok nmX9 8 (by decide) (by exact Nat.le_of_ble_eq_true rfl) rfl (by decide +kernel) (by exact vp_nar_int v) rfl (by simp [kE, mset, mrow, upd]) hlink d k
theorem xg_9_thick (C : xC p s m args meth c cc own nL rt D cy) {q index : Nat} (ho : xO kd NP 9 q) (hlink : Cond.fieldLink own index "HedgeChainsModel" "thick" "I" ∈ xAllW) (d : decode cc pc = .ok (.getfield index, 3)) (k : xX p l e R s m args below meth c A H0 D cy ad kd NP nL cells slots Q G (pc + 3) lv (.int (G q 9) :: rest)) : xX p l e R s m args below meth c A H0 D cy ad kd NP nL cells slots Q G pc lv (.ref (ad q) :: rest) :=
  xgetB C (ci := 9) (T := TX9) ho rfl rfl inlX9 9 (by decide) rfl hlink d k
theorem xp_9_thick (C : xC p s m args meth c cc own nL rt D cy) {q index : Nat} {v : Int32} (ho : xO kd NP 9 q) (hlink : Cond.fieldLink own index "HedgeChainsModel" "thick" "I" ∈ xAllW) (d : decode cc pc = .ok (.putfield index, 3)) (k : xX p l e R s m args below meth c A H0 D cy ad kd NP nL cells slots Q (mset G q 9 v) (pc + 3) lv rest) : xX p l e R s m args below meth c A H0 D cy ad kd NP nL cells slots Q G pc lv (.int v :: .ref (ad q) :: rest) :=
  xputB C (ci := 9) (T := TX9) (ty := .int) ho rfl rfl inlX9 tyX9 tyX9_ok nmX9 9 (by decide) (by exact Nat.le_of_ble_eq_true rfl) rfl (by decide +kernel) (by exact vp_nar_int v) rfl (by simp [kE, mset, mrow, upd]) hlink d k
theorem xg_9_many (C : xC p s m args meth c cc own nL rt D cy) {q index : Nat} (ho : xO kd NP 9 q) (hlink : Cond.fieldLink own index "HedgeChainsModel" "many" "I" ∈ xAllW) (d : decode cc pc = .ok (.getfield index, 3)) (k : xX p l e R s m args below meth c A H0 D cy ad kd NP nL cells slots Q G (pc + 3) lv (.int (G q 10) :: rest)) : xX p l e R s m args below meth c A H0 D cy ad kd NP nL cells slots Q G pc lv (.ref (ad q) :: rest) :=
  xgetB C (ci := 9) (T := TX9) ho rfl rfl inlX9 10 (by decide) rfl hlink d k
theorem xp_9_many (C : xC p s m args meth c cc own nL rt D cy) {q index : Nat} {v : Int32} (ho : xO kd NP 9 q) (hlink : Cond.fieldLink own index "HedgeChainsModel" "many" "I" ∈ xAllW) (d : decode cc pc = .ok (.putfield index, 3)) (k : xX p l e R s m args below meth c A H0 D cy ad kd NP nL cells slots Q (mset G q 10 v) (pc + 3) lv rest) : xX p l e R s m args below meth c A H0 D cy ad kd NP nL cells slots Q G pc lv (.int v :: .ref (ad q) :: rest) :=
  xputB C (ci := 9) (T := TX9) (ty := .int) ho rfl rfl inlX9 tyX9 tyX9_ok nmX9 10 (by decide) (by exact Nat.le_of_ble_eq_true rfl) rfl (by decide +kernel) (by exact vp_nar_int v) rfl (by simp [kE, mset, mrow, upd]) hlink d k
theorem xia_10 (C : xC p s m args meth c cc own nL rt D cy) {q : Nat} {i : Int32} (j : Nat) (hj : i.toNatClampNeg = j) (ho : xO kd NP 10 q) (hin : vp_in i 30) (d : decode cc pc = .ok (.iaload, 1)) (k : xX p l e R s m args below meth c A H0 D cy ad kd NP nL cells slots Q G (pc + 1) lv (.int (G q j) :: rest)) : xX p l e R s m args below meth c A H0 D cy ad kd NP nL cells slots Q G pc lv (.int i :: .ref (ad q) :: rest) := by
  obtain ⟨hx, hb, hml, hown, hts, hK, hN, hr, hlk⟩ := C
  intro H locs ls hP hD hS hl
  subst hj
  exact va_iald hx hb hK hP q 0 (wo_at ho) rfl hin d (k H locs ls hP hD hS hl)
theorem xis_10 (C : xC p s m args meth c cc own nL rt D cy) {q : Nat} {i v : Int32} (j : Nat) (hj : i.toNatClampNeg = j) (ho : xO kd NP 10 q) (hin : vp_in i 30) (d : decode cc pc = .ok (.iastore, 1)) (k : xX p l e R s m args below meth c A H0 D cy ad kd NP nL cells slots Q (mset G q j v) (pc + 1) lv rest) : xX p l e R s m args below meth c A H0 D cy ad kd NP nL cells slots Q G pc lv (.int v :: .int i :: .ref (ad q) :: rest) := by
  obtain ⟨hx, hb, hml, hown, hts, hK, hN, hr, hlk⟩ := C
  intro H locs ls hP hD hS hl
  subst hj
  refine va_iast hx hb hK hP hD hS q 0 (wo_at ho) rfl hin d (fun H1 locs1 hP1 hD1 hS1 => ?_)
  rw [wo_set (f := upd (G q) i.toNatClampNeg v) ho (by simp [kE, mrow])] at hP1 hD1
  exact k H1 locs1 ls hP1 hD1 hS1 hl
theorem xal_10 (C : xC p s m args meth c cc own nL rt D cy) {q : Nat} (ho : xO kd NP 10 q) (d : decode cc pc = .ok (.arraylength, 1)) (k : xX p l e R s m args below meth c A H0 D cy ad kd NP nL cells slots Q G (pc + 1) lv (.int 30 :: rest)) : xX p l e R s m args below meth c A H0 D cy ad kd NP nL cells slots Q G pc lv (.ref (ad q) :: rest) := by
  obtain ⟨hx, hb, hml, hown, hts, hK, hN, hr, hlk⟩ := C
  intro H locs ls hP hD hS hl
  exact va_alen hx hb hK hP q 0 (wo_at ho) rfl rfl d (k H locs ls hP hD hS hl)
theorem xia_11 (C : xC p s m args meth c cc own nL rt D cy) {q : Nat} {i : Int32} (j : Nat) (hj : i.toNatClampNeg = j) (ho : xO kd NP 11 q) (hin : vp_in i 6) (d : decode cc pc = .ok (.iaload, 1)) (k : xX p l e R s m args below meth c A H0 D cy ad kd NP nL cells slots Q G (pc + 1) lv (.int (G q j) :: rest)) : xX p l e R s m args below meth c A H0 D cy ad kd NP nL cells slots Q G pc lv (.int i :: .ref (ad q) :: rest) := by
  obtain ⟨hx, hb, hml, hown, hts, hK, hN, hr, hlk⟩ := C
  intro H locs ls hP hD hS hl
  subst hj
  exact va_iald hx hb hK hP q 0 (wo_at ho) rfl hin d (k H locs ls hP hD hS hl)
theorem xis_11 (C : xC p s m args meth c cc own nL rt D cy) {q : Nat} {i v : Int32} (j : Nat) (hj : i.toNatClampNeg = j) (ho : xO kd NP 11 q) (hin : vp_in i 6) (d : decode cc pc = .ok (.iastore, 1)) (k : xX p l e R s m args below meth c A H0 D cy ad kd NP nL cells slots Q (mset G q j v) (pc + 1) lv rest) : xX p l e R s m args below meth c A H0 D cy ad kd NP nL cells slots Q G pc lv (.int v :: .int i :: .ref (ad q) :: rest) := by
  obtain ⟨hx, hb, hml, hown, hts, hK, hN, hr, hlk⟩ := C
  intro H locs ls hP hD hS hl
  subst hj
  refine va_iast hx hb hK hP hD hS q 0 (wo_at ho) rfl hin d (fun H1 locs1 hP1 hD1 hS1 => ?_)
  rw [wo_set (f := upd (G q) i.toNatClampNeg v) ho (by simp [kE, mrow])] at hP1 hD1
  exact k H1 locs1 ls hP1 hD1 hS1 hl
theorem xal_11 (C : xC p s m args meth c cc own nL rt D cy) {q : Nat} (ho : xO kd NP 11 q) (d : decode cc pc = .ok (.arraylength, 1)) (k : xX p l e R s m args below meth c A H0 D cy ad kd NP nL cells slots Q G (pc + 1) lv (.int 6 :: rest)) : xX p l e R s m args below meth c A H0 D cy ad kd NP nL cells slots Q G pc lv (.ref (ad q) :: rest) := by
  obtain ⟨hx, hb, hml, hown, hts, hK, hN, hr, hlk⟩ := C
  intro H locs ls hP hD hS hl
  exact va_alen hx hb hK hP q 0 (wo_at ho) rfl rfl d (k H locs ls hP hD hS hl)
theorem xia_12 (C : xC p s m args meth c cc own nL rt D cy) {q : Nat} {i : Int32} (j : Nat) (hj : i.toNatClampNeg = j) (ho : xO kd NP 12 q) (hin : vp_in i 64) (d : decode cc pc = .ok (.iaload, 1)) (k : xX p l e R s m args below meth c A H0 D cy ad kd NP nL cells slots Q G (pc + 1) lv (.int (G q j) :: rest)) : xX p l e R s m args below meth c A H0 D cy ad kd NP nL cells slots Q G pc lv (.int i :: .ref (ad q) :: rest) := by
  obtain ⟨hx, hb, hml, hown, hts, hK, hN, hr, hlk⟩ := C
  intro H locs ls hP hD hS hl
  subst hj
  exact va_iald hx hb hK hP q 0 (wo_at ho) rfl hin d (k H locs ls hP hD hS hl)
theorem xis_12 (C : xC p s m args meth c cc own nL rt D cy) {q : Nat} {i v : Int32} (j : Nat) (hj : i.toNatClampNeg = j) (ho : xO kd NP 12 q) (hin : vp_in i 64) (d : decode cc pc = .ok (.iastore, 1)) (k : xX p l e R s m args below meth c A H0 D cy ad kd NP nL cells slots Q (mset G q j v) (pc + 1) lv rest) : xX p l e R s m args below meth c A H0 D cy ad kd NP nL cells slots Q G pc lv (.int v :: .int i :: .ref (ad q) :: rest) := by
  obtain ⟨hx, hb, hml, hown, hts, hK, hN, hr, hlk⟩ := C
  intro H locs ls hP hD hS hl
  subst hj
  refine va_iast hx hb hK hP hD hS q 0 (wo_at ho) rfl hin d (fun H1 locs1 hP1 hD1 hS1 => ?_)
  rw [wo_set (f := upd (G q) i.toNatClampNeg v) ho (by simp [kE, mrow])] at hP1 hD1
  exact k H1 locs1 ls hP1 hD1 hS1 hl
theorem xal_12 (C : xC p s m args meth c cc own nL rt D cy) {q : Nat} (ho : xO kd NP 12 q) (d : decode cc pc = .ok (.arraylength, 1)) (k : xX p l e R s m args below meth c A H0 D cy ad kd NP nL cells slots Q G (pc + 1) lv (.int 64 :: rest)) : xX p l e R s m args below meth c A H0 D cy ad kd NP nL cells slots Q G pc lv (.ref (ad q) :: rest) := by
  obtain ⟨hx, hb, hml, hown, hts, hK, hN, hr, hlk⟩ := C
  intro H locs ls hP hD hS hl
  exact va_alen hx hb hK hP q 0 (wo_at ho) rfl rfl d (k H locs ls hP hD hS hl)
theorem xia_13 (C : xC p s m args meth c cc own nL rt D cy) {q : Nat} {i : Int32} (j : Nat) (hj : i.toNatClampNeg = j) (ho : xO kd NP 13 q) (hin : vp_in i 80) (d : decode cc pc = .ok (.iaload, 1)) (k : xX p l e R s m args below meth c A H0 D cy ad kd NP nL cells slots Q G (pc + 1) lv (.int (G q j) :: rest)) : xX p l e R s m args below meth c A H0 D cy ad kd NP nL cells slots Q G pc lv (.int i :: .ref (ad q) :: rest) := by
  obtain ⟨hx, hb, hml, hown, hts, hK, hN, hr, hlk⟩ := C
  intro H locs ls hP hD hS hl
  subst hj
  exact va_iald hx hb hK hP q 0 (wo_at ho) rfl hin d (k H locs ls hP hD hS hl)
theorem xis_13 (C : xC p s m args meth c cc own nL rt D cy) {q : Nat} {i v : Int32} (j : Nat) (hj : i.toNatClampNeg = j) (ho : xO kd NP 13 q) (hin : vp_in i 80) (d : decode cc pc = .ok (.iastore, 1)) (k : xX p l e R s m args below meth c A H0 D cy ad kd NP nL cells slots Q (mset G q j v) (pc + 1) lv rest) : xX p l e R s m args below meth c A H0 D cy ad kd NP nL cells slots Q G pc lv (.int v :: .int i :: .ref (ad q) :: rest) := by
  obtain ⟨hx, hb, hml, hown, hts, hK, hN, hr, hlk⟩ := C
  intro H locs ls hP hD hS hl
  subst hj
  refine va_iast hx hb hK hP hD hS q 0 (wo_at ho) rfl hin d (fun H1 locs1 hP1 hD1 hS1 => ?_)
  rw [wo_set (f := upd (G q) i.toNatClampNeg v) ho (by simp [kE, mrow])] at hP1 hD1
  exact k H1 locs1 ls hP1 hD1 hS1 hl
theorem xal_13 (C : xC p s m args meth c cc own nL rt D cy) {q : Nat} (ho : xO kd NP 13 q) (d : decode cc pc = .ok (.arraylength, 1)) (k : xX p l e R s m args below meth c A H0 D cy ad kd NP nL cells slots Q G (pc + 1) lv (.int 80 :: rest)) : xX p l e R s m args below meth c A H0 D cy ad kd NP nL cells slots Q G pc lv (.ref (ad q) :: rest) := by
  obtain ⟨hx, hb, hml, hown, hts, hK, hN, hr, hlk⟩ := C
  intro H locs ls hP hD hS hl
  exact va_alen hx hb hK hP q 0 (wo_at ho) rfl rfl d (k H locs ls hP hD hS hl)
theorem xia_14 (C : xC p s m args meth c cc own nL rt D cy) {q : Nat} {i : Int32} (j : Nat) (hj : i.toNatClampNeg = j) (ho : xO kd NP 14 q) (hin : vp_in i 668) (d : decode cc pc = .ok (.iaload, 1)) (k : xX p l e R s m args below meth c A H0 D cy ad kd NP nL cells slots Q G (pc + 1) lv (.int (G q j) :: rest)) : xX p l e R s m args below meth c A H0 D cy ad kd NP nL cells slots Q G pc lv (.int i :: .ref (ad q) :: rest) := by
  obtain ⟨hx, hb, hml, hown, hts, hK, hN, hr, hlk⟩ := C
  intro H locs ls hP hD hS hl
  subst hj
  exact va_iald hx hb hK hP q 0 (wo_at ho) rfl hin d (k H locs ls hP hD hS hl)
theorem xis_14 (C : xC p s m args meth c cc own nL rt D cy) {q : Nat} {i v : Int32} (j : Nat) (hj : i.toNatClampNeg = j) (ho : xO kd NP 14 q) (hin : vp_in i 668) (d : decode cc pc = .ok (.iastore, 1)) (k : xX p l e R s m args below meth c A H0 D cy ad kd NP nL cells slots Q (mset G q j v) (pc + 1) lv rest) : xX p l e R s m args below meth c A H0 D cy ad kd NP nL cells slots Q G pc lv (.int v :: .int i :: .ref (ad q) :: rest) := by
  obtain ⟨hx, hb, hml, hown, hts, hK, hN, hr, hlk⟩ := C
  intro H locs ls hP hD hS hl
  subst hj
  refine va_iast hx hb hK hP hD hS q 0 (wo_at ho) rfl hin d (fun H1 locs1 hP1 hD1 hS1 => ?_)
  rw [wo_set (f := upd (G q) i.toNatClampNeg v) ho (by simp [kE, mrow])] at hP1 hD1
  exact k H1 locs1 ls hP1 hD1 hS1 hl
theorem xal_14 (C : xC p s m args meth c cc own nL rt D cy) {q : Nat} (ho : xO kd NP 14 q) (d : decode cc pc = .ok (.arraylength, 1)) (k : xX p l e R s m args below meth c A H0 D cy ad kd NP nL cells slots Q G (pc + 1) lv (.int 668 :: rest)) : xX p l e R s m args below meth c A H0 D cy ad kd NP nL cells slots Q G pc lv (.ref (ad q) :: rest) := by
  obtain ⟨hx, hb, hml, hown, hts, hK, hN, hr, hlk⟩ := C
  intro H locs ls hP hD hS hl
  exact va_alen hx hb hK hP q 0 (wo_at ho) rfl rfl d (k H locs ls hP hD hS hl)
theorem xia_15 (C : xC p s m args meth c cc own nL rt D cy) {q : Nat} {i : Int32} (j : Nat) (hj : i.toNatClampNeg = j) (ho : xO kd NP 15 q) (hin : vp_in i 3340) (d : decode cc pc = .ok (.iaload, 1)) (k : xX p l e R s m args below meth c A H0 D cy ad kd NP nL cells slots Q G (pc + 1) lv (.int (G q j) :: rest)) : xX p l e R s m args below meth c A H0 D cy ad kd NP nL cells slots Q G pc lv (.int i :: .ref (ad q) :: rest) := by
  obtain ⟨hx, hb, hml, hown, hts, hK, hN, hr, hlk⟩ := C
  intro H locs ls hP hD hS hl
  subst hj
  exact va_iald hx hb hK hP q 0 (wo_at ho) rfl hin d (k H locs ls hP hD hS hl)
theorem xis_15 (C : xC p s m args meth c cc own nL rt D cy) {q : Nat} {i v : Int32} (j : Nat) (hj : i.toNatClampNeg = j) (ho : xO kd NP 15 q) (hin : vp_in i 3340) (d : decode cc pc = .ok (.iastore, 1)) (k : xX p l e R s m args below meth c A H0 D cy ad kd NP nL cells slots Q (mset G q j v) (pc + 1) lv rest) : xX p l e R s m args below meth c A H0 D cy ad kd NP nL cells slots Q G pc lv (.int v :: .int i :: .ref (ad q) :: rest) := by
  obtain ⟨hx, hb, hml, hown, hts, hK, hN, hr, hlk⟩ := C
  intro H locs ls hP hD hS hl
  subst hj
  refine va_iast hx hb hK hP hD hS q 0 (wo_at ho) rfl hin d (fun H1 locs1 hP1 hD1 hS1 => ?_)
  rw [wo_set (f := upd (G q) i.toNatClampNeg v) ho (by simp [kE, mrow])] at hP1 hD1
  exact k H1 locs1 ls hP1 hD1 hS1 hl
theorem xal_15 (C : xC p s m args meth c cc own nL rt D cy) {q : Nat} (ho : xO kd NP 15 q) (d : decode cc pc = .ok (.arraylength, 1)) (k : xX p l e R s m args below meth c A H0 D cy ad kd NP nL cells slots Q G (pc + 1) lv (.int 3340 :: rest)) : xX p l e R s m args below meth c A H0 D cy ad kd NP nL cells slots Q G pc lv (.ref (ad q) :: rest) := by
  obtain ⟨hx, hb, hml, hown, hts, hK, hN, hr, hlk⟩ := C
  intro H locs ls hP hD hS hl
  exact va_alen hx hb hK hP q 0 (wo_at ho) rfl rfl d (k H locs ls hP hD hS hl)
theorem xza (C : xC p s m args meth c cc own nL rt D cy) {q : Nat} {i : Int32} (ho : xO kd NP 16 q) (hin : vp_in i 2) (d : decode cc pc = .ok (.baload, 1)) (k : xX p l e R s m args below meth c A H0 D cy ad kd NP nL cells slots Q G (pc + 1) lv (.int (G q i.toNatClampNeg) :: rest)) : xX p l e R s m args below meth c A H0 D cy ad kd NP nL cells slots Q G pc lv (.int i :: .ref (ad q) :: rest) := by
  obtain ⟨hx, hb, hml, hown, hts, hK, hN, hr, hlk⟩ := C
  intro H locs ls hP hD hS hl
  exact va_zald hx hb hK hP q 1 (wo_at ho) rfl hin d (k H locs ls hP hD hS hl)
theorem xzs (C : xC p s m args meth c cc own nL rt D cy) {q : Nat} {i v : Int32} (ho : xO kd NP 16 q) (hin : vp_in i 2) (d : decode cc pc = .ok (.bastore, 1)) (k : xX p l e R s m args below meth c A H0 D cy ad kd NP nL cells slots Q (mset G q i.toNatClampNeg (vp_nar .boolean v)) (pc + 1) lv rest) : xX p l e R s m args below meth c A H0 D cy ad kd NP nL cells slots Q G pc lv (.int v :: .int i :: .ref (ad q) :: rest) := by
  obtain ⟨hx, hb, hml, hown, hts, hK, hN, hr, hlk⟩ := C
  intro H locs ls hP hD hS hl
  refine va_zast hx hb hK hP hD hS q 1 (wo_at ho) rfl hin d (fun H1 locs1 hP1 hD1 hS1 => ?_)
  rw [wo_set (f := upd (G q) i.toNatClampNeg (vp_nar .boolean v)) ho (by simp [kE, mrow])] at hP1 hD1
  exact k H1 locs1 ls hP1 hD1 hS1 hl
theorem xca (C : xC p s m args meth c cc own nL rt D cy) {q : Nat} {i : Int32} (ho : xO kd NP 17 q) (hin : vp_in i 80) (d : decode cc pc = .ok (.caload, 1)) (k : xX p l e R s m args below meth c A H0 D cy ad kd NP nL cells slots Q G (pc + 1) lv (.int (G q i.toNatClampNeg) :: rest)) : xX p l e R s m args below meth c A H0 D cy ad kd NP nL cells slots Q G pc lv (.int i :: .ref (ad q) :: rest) := by
  obtain ⟨hx, hb, hml, hown, hts, hK, hN, hr, hlk⟩ := C
  intro H locs ls hP hD hS hl
  exact va_cald hx hb hK hP q 2 (wo_at ho) rfl hin d (k H locs ls hP hD hS hl)
theorem xcs (C : xC p s m args meth c cc own nL rt D cy) {q : Nat} {i v : Int32} (ho : xO kd NP 17 q) (hin : vp_in i 80) (d : decode cc pc = .ok (.castore, 1)) (k : xX p l e R s m args below meth c A H0 D cy ad kd NP nL cells slots Q (mset G q i.toNatClampNeg (vp_nar .char v)) (pc + 1) lv rest) : xX p l e R s m args below meth c A H0 D cy ad kd NP nL cells slots Q G pc lv (.int v :: .int i :: .ref (ad q) :: rest) := by
  obtain ⟨hx, hb, hml, hown, hts, hK, hN, hr, hlk⟩ := C
  intro H locs ls hP hD hS hl
  refine va_cast hx hb hK hP hD hS q 2 (wo_at ho) rfl hin d (fun H1 locs1 hP1 hD1 hS1 => ?_)
  rw [wo_set (f := upd (G q) i.toNatClampNeg (vp_nar .char v)) ho (by simp [kE, mrow])] at hP1 hD1
  exact k H1 locs1 ls hP1 hD1 hS1 hl
theorem xaa_18 (C : xC p s m args meth c cc own nL rt D cy) {q : Nat} {i : Int32} (j : Nat) (hj : i.toNatClampNeg = j) (q' : Nat) (hq : q + 2 + 5 * j = q') (ho : xO kd NP 18 q) (hin : vp_in i 6) (d : decode cc pc = .ok (.aaload, 1)) (k : xX p l e R s m args below meth c A H0 D cy ad kd NP nL cells slots Q G (pc + 1) lv (.ref (ad q') :: rest)) : xX p l e R s m args below meth c A H0 D cy ad kd NP nL cells slots Q G pc lv (.int i :: .ref (ad q) :: rest) := by
  obtain ⟨hx, hb, hml, hown, hts, hK, hN, hr, hlk⟩ := C
  intro H locs ls hP hD hS hl
  subst hq; subst hj
  exact va_aldq hx hb hK hP q 3 (f := fun i => some (ad (q + 2 + 5 * i))) (wo_at ho) rfl hin d (k H locs ls hP hD hS hl)
theorem xaa_19 (C : xC p s m args meth c cc own nL rt D cy) {q : Nat} {i : Int32} (j : Nat) (hj : i.toNatClampNeg = j) (q' : Nat) (hq : q + 5 + 5 * j = q') (ho : xO kd NP 19 q) (hin : vp_in i 6) (d : decode cc pc = .ok (.aaload, 1)) (k : xX p l e R s m args below meth c A H0 D cy ad kd NP nL cells slots Q G (pc + 1) lv (.ref (ad q') :: rest)) : xX p l e R s m args below meth c A H0 D cy ad kd NP nL cells slots Q G pc lv (.int i :: .ref (ad q) :: rest) := by
  obtain ⟨hx, hb, hml, hown, hts, hK, hN, hr, hlk⟩ := C
  intro H locs ls hP hD hS hl
  subst hq; subst hj
  exact va_aldq hx hb hK hP q 4 (f := fun i => some (ad (q + 5 + 5 * i))) (wo_at ho) rfl hin d (k H locs ls hP hD hS hl)
theorem xaa_20 (C : xC p s m args meth c cc own nL rt D cy) {q : Nat} {i : Int32} (j : Nat) (hj : i.toNatClampNeg = j) (q' : Nat) (hq : q + 2 + 33 * j = q') (ho : xO kd NP 20 q) (hin : vp_in i 2) (d : decode cc pc = .ok (.aaload, 1)) (k : xX p l e R s m args below meth c A H0 D cy ad kd NP nL cells slots Q G (pc + 1) lv (.ref (ad q') :: rest)) : xX p l e R s m args below meth c A H0 D cy ad kd NP nL cells slots Q G pc lv (.int i :: .ref (ad q) :: rest) := by
  obtain ⟨hx, hb, hml, hown, hts, hK, hN, hr, hlk⟩ := C
  intro H locs ls hP hD hS hl
  subst hq; subst hj
  exact va_aldq hx hb hK hP q 5 (f := fun i => some (ad (q + 2 + 33 * i))) (wo_at ho) rfl hin d (k H locs ls hP hD hS hl)
theorem xaa_21 (C : xC p s m args meth c cc own nL rt D cy) {q : Nat} {i : Int32} (j : Nat) (hj : i.toNatClampNeg = j) (q' : Nat) (hq : q + 1 + 102 * j = q') (ho : xO kd NP 21 q) (hin : vp_in i 5) (d : decode cc pc = .ok (.aaload, 1)) (k : xX p l e R s m args below meth c A H0 D cy ad kd NP nL cells slots Q G (pc + 1) lv (.ref (ad q') :: rest)) : xX p l e R s m args below meth c A H0 D cy ad kd NP nL cells slots Q G pc lv (.int i :: .ref (ad q) :: rest) := by
  obtain ⟨hx, hb, hml, hown, hts, hK, hN, hr, hlk⟩ := C
  intro H locs ls hP hD hS hl
  subst hq; subst hj
  exact va_aldq hx hb hK hP q 6 (f := fun i => some (ad (q + 1 + 102 * i))) (wo_at ho) rfl hin d (k H locs ls hP hD hS hl)
theorem xcopy30 (C : xC p s m args meth c cc own nL rt D cy) {q q1 index : Nat} (ho : xO kd NP 10 q) (ho1 : xO kd NP 10 q1) (hlink : Cond.methodLink own index arraycopyName ∈ xAllW) (hnat : Cond.native arraycopyName ∈ xAllW) (hstat : Cond.static arraycopyName ∈ xAllW) (hini : Cond.initialized "java/lang/System" ∈ xAllW) (hR : 1 ≤ R.frames ∧ (rest.map fun v => v.category).sum + (nativeFrameWords "java/lang/System" "arraycopy" 5 + 11) ≤ R.locals) (d : decode cc pc = .ok (.invokestatic index, 3)) (k : xX p l e R s m args below meth c A H0 D cy ad kd NP nL cells slots Q (mrow G q1 (va_cpy (G q) (G q1) 0 0 30)) (pc + 3) lv rest) : xX p l e R s m args below meth c A H0 D cy ad kd NP nL cells slots Q G pc lv (.int 30 :: .int 0 :: .ref (ad q1) :: .int 0 :: .ref (ad q) :: rest) := by
  obtain ⟨hx, hb, hml, hown, hts, hK, hN, hr, hlk⟩ := C
  intro H locs ls hP hD hS hl
  refine va_copyi hx hb (hml.trans hl.1.symm) hown (hts _ hlink) (hts _ hnat) (hts _ hstat) (hts _ hini) hK hP hD hS q q1 0 0 (wo_at ho) (wo_at ho1) rfl rfl rfl (by decide) (by decide) (by decide) (by decide) (by decide) (fun _ _ => rfl) hR.1 hR.2 d (fun H1 locs1 hP1 hD1 hS1 => ?_)
  rw [wo_set (f := va_cpy (G q) (G q1) 0 0 30) ho1 (by simp [kE, mrow])] at hP1 hD1
  exact k H1 locs1 ls hP1 hD1 hS1 hl
theorem xmmin (C : xC p s m args meth c cc own nL rt D cy) {x y : Int32} {index : Nat} (hlink : Cond.methodLink own index Lib.Math.min.name ∈ xAllW) (hstat : Cond.static Lib.Math.min.name ∈ xAllW) (hini : Cond.initialized "java/lang/Math" ∈ xAllW) (hcode : Cond.code Lib.Math.min.name Lib.Math.min.code 2 (some .int) ∈ xAllW) (hR : 1 ≤ R.frames ∧ (rest.map fun v => v.category).sum + 13 ≤ R.locals) (hcs : cells ≤ R.cells ∧ slots ≤ R.slots) (d : decode cc pc = .ok (.invokestatic index, 3)) (k : xX p l e R s m args below meth c A H0 D cy ad kd NP nL cells slots Q G (pc + 3) lv (.int (if y < x then y else x) :: rest)) : xX p l e R s m args below meth c A H0 D cy ad kd NP nL cells slots Q G pc lv (.int y :: .int x :: rest) := by
  obtain ⟨hx, hb, hml, hown, hts, hK, hN, hr, hlk⟩ := C
  intro H locs ls hP hD hS hl
  exact va_mmin hx hb (hml.trans hl.1.symm) hown (hts _ hlink) (hts _ hstat) (hts _ hini) (hts _ hcode) hR.1 hR.2 hcs.1 hcs.2 d (k H locs ls hP hD hS hl)
theorem xmmax (C : xC p s m args meth c cc own nL rt D cy) {x y : Int32} {index : Nat} (hlink : Cond.methodLink own index Lib.Math.max.name ∈ xAllW) (hstat : Cond.static Lib.Math.max.name ∈ xAllW) (hini : Cond.initialized "java/lang/Math" ∈ xAllW) (hcode : Cond.code Lib.Math.max.name Lib.Math.max.code 2 (some .int) ∈ xAllW) (hR : 1 ≤ R.frames ∧ (rest.map fun v => v.category).sum + 13 ≤ R.locals) (hcs : cells ≤ R.cells ∧ slots ≤ R.slots) (d : decode cc pc = .ok (.invokestatic index, 3)) (k : xX p l e R s m args below meth c A H0 D cy ad kd NP nL cells slots Q G (pc + 3) lv (.int (if x < y then y else x) :: rest)) : xX p l e R s m args below meth c A H0 D cy ad kd NP nL cells slots Q G pc lv (.int y :: .int x :: rest) := by
  obtain ⟨hx, hb, hml, hown, hts, hK, hN, hr, hlk⟩ := C
  intro H locs ls hP hD hS hl
  exact va_mmax hx hb (hml.trans hl.1.symm) hown (hts _ hlink) (hts _ hstat) (hts _ hini) (hts _ hcode) hR.1 hR.2 hcs.1 hcs.2 d (k H locs ls hP hD hS hl)
theorem xiret (C : xC p s m args meth c cc own nL rt D cy) {v : Int32}  (hrt : rt = some .int) (d : decode cc pc = .ok (.ireturn, 1)) : xX p l e R s m args below meth c A s.heap D cy ad kd NP nL 0 0 (xQi below D cy ad kd NP A args s v G) G pc lv [.int v] := by
  obtain ⟨hx, hb, hml, hown, hts, hK, hN, hr, hlk⟩ := C
  intro H locs ls hP hD hS hl
  exact W.iret hx hb (hr.trans hrt) (fun t ht hW => ⟨⟨v, (), rfl, rfl, by show va_P D vwCl (wo cy ad kd G NP) t.heap; rw [ht]; exact hP⟩, hS.F ht⟩) hS.2.2 d hlk
theorem xzret (C : xC p s m args meth c cc own nL rt D cy) {v : Int32} (hz : v = 0 ∨ v = 1) (hrt : rt = some .boolean) (d : decode cc pc = .ok (.ireturn, 1)) : xX p l e R s m args below meth c A s.heap D cy ad kd NP nL 0 0 (xQi below D cy ad kd NP A args s v G) G pc lv [.int v] := by
  obtain ⟨hx, hb, hml, hown, hts, hK, hN, hr, hlk⟩ := C
  intro H locs ls hP hD hS hl
  exact W.zret hx hb (hr.trans hrt) (xz_nar hz) (fun t ht hW => ⟨⟨v, (), rfl, rfl, by show va_P D vwCl (wo cy ad kd G NP) t.heap; rw [ht]; exact hP⟩, hS.F ht⟩) hS.2.2 d hlk
theorem xc_nar {v : Int32} (h : vp_nar .char v = v) : narrow .char (.int v) = .int v := by
  have h1 : narrow .char (.int v) = .int (vp_nar .char v) := rfl
  rw [h1, h]
theorem xcret (C : xC p s m args meth c cc own nL rt D cy) {v : Int32} (hz : vp_nar .char v = v) (hrt : rt = some .char) (d : decode cc pc = .ok (.ireturn, 1)) : xX p l e R s m args below meth c A s.heap D cy ad kd NP nL 0 0 (xQi below D cy ad kd NP A args s v G) G pc lv [.int v] := by
  obtain ⟨hx, hb, hml, hown, hts, hK, hN, hr, hlk⟩ := C
  intro H locs ls hP hD hS hl
  exact W.zret hx hb (hr.trans hrt) (xc_nar hz) (fun t ht hW => ⟨⟨v, (), rfl, rfl, by show va_P D vwCl (wo cy ad kd G NP) t.heap; rw [ht]; exact hP⟩, hS.F ht⟩) hS.2.2 d hlk
theorem xvret (C : xC p s m args meth c cc own nL rt D cy) (hrt : rt = none) (d : decode cc pc = .ok (.return_, 1)) : xX p l e R s m args below meth c A s.heap D cy ad kd NP nL 0 0 (xQv below D cy ad kd NP A args s G) G pc lv [] := by
  obtain ⟨hx, hb, hml, hown, hts, hK, hN, hr, hlk⟩ := C
  intro H locs ls hP hD hS hl
  exact W.vret hx hb (hr.trans hrt) (fun t ht hW => ⟨⟨(), rfl, trivial, by show va_P D vwCl (wo cy ad kd G NP) t.heap; rw [ht]; exact hP⟩, hS.F ht⟩) hS.2.2 d hlk
/-- a method's words: its receiver's class, its descriptor; where they stand among the law's words -/
def xW (y : MethodName) (b : ByteArray) (n : Nat) (ret : Option FieldType) (k : Nat) : Prop := Cond.initialized y.cls ∈ xAllW ∧ Cond.code y b n ret ∈ xAllW ∧ y.cls ≠ "java/lang/invoke/MethodHandle" ∧ y.cls ≠ "java/lang/invoke/VarHandle" ∧ (parseMethodDescriptor y.desc).map (fun d => d.parameters.length) = some k
def xWv (y : MethodName) : Prop := Cond.instanceMethod y ∈ xAllW ∧ Cond.selects y.cls y y ∈ xAllW
theorem xWs_good {y : MethodName} {b : ByteArray} {n : Nat} {ret : Option FieldType} (h : Cond.code y b n ret ∈ xAllW) : GoodIn xAllW (xWs y b n ret) := fun w hw => by
  rcases List.mem_cons.mp hw with rfl | hw
  · exact xAll _ h
  · exact xAll _ hw
theorem xblind (as : List Value) : FrameBlind (va_Pc as (xPre D cy ad kd NP A G)) := fun a U g mk q => by
  obtain ⟨q0, qP, qD, qK, qN⟩ := q
  exact ⟨q0, qP, qD, va_K.moved (u := U) (U := U.calling g mk a) (Vm.Alike.refl U.vm) qK, xNs.same (s := U) (U := U.calling g mk a) rfl qN⟩
theorem xrecv {H : Heap} {ci q : Nat} {fs : List Value} {CN : String} {T : u_T} {N : Nat} (hK : va_K D vwCl (xT cy) s) (hP : va_P D vwCl (wo cy ad kd G NP) H) (ho : xO kd NP ci q) (he : kE cy ad G ci q = .inr (ci, fs)) (hc : vwCl[ci]? = some (CN, T, N)) : ∃ cell : Cell, H[ad q]? = some cell ∧ cell.vm.isStatics = false ∧ s.vm.findClass CN = some cell.cls :=
  va_recv hK hP hc (q0 := q) (by rw [wo_at ho, he])
theorem xVi (C : xC p s m args meth c cc own nL rt D cy) {y : MethodName} {b : ByteArray} {n : Nat} {ret : Option FieldType} {fr lo index : Nat} {As st : List Value} {G' : Mem} {r : Int32} {q ci : Nat} {fs : List Value} {T : u_T} {N : Nat} (hM : xMi l D cy ad kd NP A y b n ret fr lo (.ref (ad q) :: As) G r G') (ho : xO kd NP ci q) (he : kE cy ad G ci q = .inr (ci, fs)) (hcl : vwCl[ci]? = some (y.cls, T, N)) (hlink : Cond.methodLink own index y ∈ xAllW) (hwv : xWv y) (hw : xW y b n ret As.length) (hstk : st = As.reverse ++ .ref (ad q) :: rest) (hR : fr + 1 ≤ R.frames ∧ 8 + (n + 11) + lo ≤ R.locals) (hcs : cells ≤ R.cells ∧ slots ≤ R.slots) (hrs : (rest.map fun v => v.category).sum ≤ 8) (d : decode cc pc = .ok (.invokevirtual index, 3)) (k : xX p l e R s m args below meth c A H0 D cy ad kd NP nL cells slots Q G' (pc + 3) lv (.int r :: rest)) : xX p l e R s m args below meth c A H0 D cy ad kd NP nL cells slots Q G pc lv st := by
  obtain ⟨hx, hb, hml, hown, hts, hK, hN, hr, hlk⟩ := C
  intro H locs ls hP hD hS hl
  subst hstk
  refine va_calli (va_runV (C := y.cls) (As := As) (rest := rest) ⟨hx, hb, hml, hown, hts⟩ hM ⟨callB_of _ hts (xWs_good hw.2.1) rfl rfl rfl (hts _ hw.1) (hts _ hlink) hw.2.2 hR, hts _ hwv.1, hts _ hwv.2⟩ ⟨xblind _, xrecv hK hP ho he hcl, fun U hU hW => ⟨rfl, by rw [hU]; exact hP, hD, va_K.moved hW.alike hK, hN.warm hW⟩⟩ rfl rfl hl.1 rfl (lv_room hrs) d hcs) hS (fun _ _ h => h) (fun _ h => h) (fun r1 u t H1 locs1 ht hvm hw1 hB hz1 hk1 hS1 => ?_)
  rw [ht] at hB
  subst hw1
  exact k H1 locs1 ls hB (wo_D G' hD) hS1 hl
theorem xVv (C : xC p s m args meth c cc own nL rt D cy) {y : MethodName} {b : ByteArray} {n : Nat} {ret : Option FieldType} {fr lo index : Nat} {As st : List Value} {G' : Mem} {q ci : Nat} {fs : List Value} {T : u_T} {N : Nat} (hM : xMv l D cy ad kd NP A y b n ret fr lo (.ref (ad q) :: As) G G') (ho : xO kd NP ci q) (he : kE cy ad G ci q = .inr (ci, fs)) (hcl : vwCl[ci]? = some (y.cls, T, N)) (hlink : Cond.methodLink own index y ∈ xAllW) (hwv : xWv y) (hw : xW y b n ret As.length) (hstk : st = As.reverse ++ .ref (ad q) :: rest) (hR : fr + 1 ≤ R.frames ∧ 8 + (n + 11) + lo ≤ R.locals) (hcs : cells ≤ R.cells ∧ slots ≤ R.slots) (hrs : (rest.map fun v => v.category).sum ≤ 8) (d : decode cc pc = .ok (.invokevirtual index, 3)) (k : xX p l e R s m args below meth c A H0 D cy ad kd NP nL cells slots Q G' (pc + 3) lv rest) : xX p l e R s m args below meth c A H0 D cy ad kd NP nL cells slots Q G pc lv st := by
  obtain ⟨hx, hb, hml, hown, hts, hK, hN, hr, hlk⟩ := C
  intro H locs ls hP hD hS hl
  subst hstk
  refine va_callv (va_runV (C := y.cls) (As := As) (rest := rest) ⟨hx, hb, hml, hown, hts⟩ hM ⟨callB_of _ hts (xWs_good hw.2.1) rfl rfl rfl (hts _ hw.1) (hts _ hlink) hw.2.2 hR, hts _ hwv.1, hts _ hwv.2⟩ ⟨xblind _, xrecv hK hP ho he hcl, fun U hU hW => ⟨rfl, by rw [hU]; exact hP, hD, va_K.moved hW.alike hK, hN.warm hW⟩⟩ rfl rfl hl.1 rfl (lv_room hrs) d hcs) hS (fun _ _ h => h) (fun _ h => h) (fun u t H1 locs1 ht hvm hw1 hB hz1 hk1 hS1 => ?_)
  rw [ht] at hB
  exact k H1 locs1 ls hB (wo_D G' hD) hS1 hl
theorem xNi (C : xC p s m args meth c cc own nL rt D cy) {y : MethodName} {b : ByteArray} {n : Nat} {ret : Option FieldType} {fr lo index : Nat} {As st : List Value} {G' : Mem} {r : Int32} {q ci : Nat} {fs : List Value} {T : u_T} {N : Nat} (hM : xMi l D cy ad kd NP A y b n ret fr lo (.ref (ad q) :: As) G r G') (ho : xO kd NP ci q) (he : kE cy ad G ci q = .inr (ci, fs)) (hcl : vwCl[ci]? = some (y.cls, T, N)) (hlink : (own, index, y) ∈ xNM) (hwv : xWv y) (hw : xW y b n ret As.length) (hstk : st = As.reverse ++ .ref (ad q) :: rest) (hR : fr + 1 ≤ R.frames ∧ 8 + (n + 11) + lo ≤ R.locals) (hcs : cells ≤ R.cells ∧ slots ≤ R.slots) (hrs : (rest.map fun v => v.category).sum ≤ 8) (d : decode cc pc = .ok (.invokevirtual index, 3)) (k : xX p l e R s m args below meth c A H0 D cy ad kd NP nL cells slots Q G' (pc + 3) lv (.int r :: rest)) : xX p l e R s m args below meth c A H0 D cy ad kd NP nL cells slots Q G pc lv st := by
  obtain ⟨hx, hb, hml, hown, hts, hK, hN, hr, hlk⟩ := C
  intro H locs ls hP hD hS hl
  subst hstk
  refine va_calli (va_runVN (C := y.cls) (As := As) (rest := rest) ⟨hx, hb, hml, hown, hts⟩ hM ⟨va_cnB _ hts (xWs_good hw.2.1) rfl rfl rfl (hN.2 _ hlink) (hts _ hw.1) hw.2.2 hR, hts _ hwv.1, hts _ hwv.2⟩ ⟨xblind _, xrecv hK hP ho he hcl, fun U hU hW => ⟨rfl, by rw [hU]; exact hP, hD, va_K.moved hW.alike hK, hN.warm hW⟩⟩ rfl rfl hl.1 rfl (lv_room hrs) d hcs) hS (fun _ _ h => h) (fun _ h => h) (fun r1 u t H1 locs1 ht hvm hw1 hB hz1 hk1 hS1 => ?_)
  rw [ht] at hB
  subst hw1
  exact k H1 locs1 ls hB (wo_D G' hD) hS1 hl
theorem xNv (C : xC p s m args meth c cc own nL rt D cy) {y : MethodName} {b : ByteArray} {n : Nat} {ret : Option FieldType} {fr lo index : Nat} {As st : List Value} {G' : Mem} {q ci : Nat} {fs : List Value} {T : u_T} {N : Nat} (hM : xMv l D cy ad kd NP A y b n ret fr lo (.ref (ad q) :: As) G G') (ho : xO kd NP ci q) (he : kE cy ad G ci q = .inr (ci, fs)) (hcl : vwCl[ci]? = some (y.cls, T, N)) (hlink : (own, index, y) ∈ xNM) (hwv : xWv y) (hw : xW y b n ret As.length) (hstk : st = As.reverse ++ .ref (ad q) :: rest) (hR : fr + 1 ≤ R.frames ∧ 8 + (n + 11) + lo ≤ R.locals) (hcs : cells ≤ R.cells ∧ slots ≤ R.slots) (hrs : (rest.map fun v => v.category).sum ≤ 8) (d : decode cc pc = .ok (.invokevirtual index, 3)) (k : xX p l e R s m args below meth c A H0 D cy ad kd NP nL cells slots Q G' (pc + 3) lv rest) : xX p l e R s m args below meth c A H0 D cy ad kd NP nL cells slots Q G pc lv st := by
  obtain ⟨hx, hb, hml, hown, hts, hK, hN, hr, hlk⟩ := C
  intro H locs ls hP hD hS hl
  subst hstk
  refine va_callv (va_runVN (C := y.cls) (As := As) (rest := rest) ⟨hx, hb, hml, hown, hts⟩ hM ⟨va_cnB _ hts (xWs_good hw.2.1) rfl rfl rfl (hN.2 _ hlink) (hts _ hw.1) hw.2.2 hR, hts _ hwv.1, hts _ hwv.2⟩ ⟨xblind _, xrecv hK hP ho he hcl, fun U hU hW => ⟨rfl, by rw [hU]; exact hP, hD, va_K.moved hW.alike hK, hN.warm hW⟩⟩ rfl rfl hl.1 rfl (lv_room hrs) d hcs) hS (fun _ _ h => h) (fun _ h => h) (fun u t H1 locs1 ht hvm hw1 hB hz1 hk1 hS1 => ?_)
  rw [ht] at hB
  exact k H1 locs1 ls hB (wo_D G' hD) hS1 hl
theorem xSi (C : xC p s m args meth c cc own nL rt D cy) {y : MethodName} {b : ByteArray} {n : Nat} {ret : Option FieldType} {fr lo index : Nat} {As st : List Value} {G' : Mem} {r : Int32} (hM : xMi l D cy ad kd NP A y b n ret fr lo As G r G') (hlink : Cond.methodLink own index y ∈ xAllW) (hst : Cond.static y ∈ xAllW) (hw : xW y b n ret As.length) (hstk : st = As.reverse ++ rest) (hR : fr + 1 ≤ R.frames ∧ 8 + (n + 11) + lo ≤ R.locals) (hcs : cells ≤ R.cells ∧ slots ≤ R.slots) (hrs : (rest.map fun v => v.category).sum ≤ 8) (d : decode cc pc = .ok (.invokestatic index, 3)) (k : xX p l e R s m args below meth c A H0 D cy ad kd NP nL cells slots Q G' (pc + 3) lv (.int r :: rest)) : xX p l e R s m args below meth c A H0 D cy ad kd NP nL cells slots Q G pc lv st := by
  obtain ⟨hx, hb, hml, hown, hts, hK, hN, hr, hlk⟩ := C
  intro H locs ls hP hD hS hl
  subst hstk
  refine va_calli (va_runS (As := As) (rest := rest) ⟨hx, hb, hml, hown, hts⟩ hM ⟨callB_of _ hts (xWs_good hw.2.1) rfl rfl rfl (hts _ hw.1) (hts _ hlink) hw.2.2 hR, hts _ hst⟩ ⟨xblind _, fun U hU hW => ⟨rfl, by rw [hU]; exact hP, hD, va_K.moved hW.alike hK, hN.warm hW⟩⟩ rfl rfl hl.1 rfl (lv_room hrs) d hcs) hS (fun _ _ h => h) (fun _ h => h) (fun r1 u t H1 locs1 ht hvm hw1 hB hz1 hk1 hS1 => ?_)
  rw [ht] at hB
  subst hw1
  exact k H1 locs1 ls hB (wo_D G' hD) hS1 hl
theorem xSv (C : xC p s m args meth c cc own nL rt D cy) {y : MethodName} {b : ByteArray} {n : Nat} {ret : Option FieldType} {fr lo index : Nat} {As st : List Value} {G' : Mem} (hM : xMv l D cy ad kd NP A y b n ret fr lo As G G') (hlink : Cond.methodLink own index y ∈ xAllW) (hst : Cond.static y ∈ xAllW) (hw : xW y b n ret As.length) (hstk : st = As.reverse ++ rest) (hR : fr + 1 ≤ R.frames ∧ 8 + (n + 11) + lo ≤ R.locals) (hcs : cells ≤ R.cells ∧ slots ≤ R.slots) (hrs : (rest.map fun v => v.category).sum ≤ 8) (d : decode cc pc = .ok (.invokestatic index, 3)) (k : xX p l e R s m args below meth c A H0 D cy ad kd NP nL cells slots Q G' (pc + 3) lv rest) : xX p l e R s m args below meth c A H0 D cy ad kd NP nL cells slots Q G pc lv st := by
  obtain ⟨hx, hb, hml, hown, hts, hK, hN, hr, hlk⟩ := C
  intro H locs ls hP hD hS hl
  subst hstk
  refine va_callv (va_runS (As := As) (rest := rest) ⟨hx, hb, hml, hown, hts⟩ hM ⟨callB_of _ hts (xWs_good hw.2.1) rfl rfl rfl (hts _ hw.1) (hts _ hlink) hw.2.2 hR, hts _ hst⟩ ⟨xblind _, fun U hU hW => ⟨rfl, by rw [hU]; exact hP, hD, va_K.moved hW.alike hK, hN.warm hW⟩⟩ rfl rfl hl.1 rfl (lv_room hrs) d hcs) hS (fun _ _ h => h) (fun _ h => h) (fun u t H1 locs1 ht hvm hw1 hB hz1 hk1 hS1 => ?_)
  rw [ht] at hB
  exact k H1 locs1 ls hB (wo_D G' hD) hS1 hl
theorem xMi_of {y : MethodName} {b : ByteArray} {n fr lo : Nat} {ret : Option FieldType} {as : List Value} {r : Int32} {G' : Mem} (hA : True) (hy : plainName y.cls = true) (hn : (lg_sl as).length ≤ n)
    (body : ∀ (p : Program) (e : Env) (s : State) (m : MethodId) (args : Array Value) (below : List Frame) (meth : Method) (c : Code), xC p s m args meth c b y.cls n ret D cy → xX p l e (xR fr lo) s m args below meth c A s.heap D cy ad kd NP n 0 0 (xQi below D cy ad kd NP A args s r G') G 0 (lv_args 0 as) []) : xMi l D cy ad kd NP A y b n ret fr lo as G r G' := by
  refine Met.ofW (cc := b) (maxL := n) (ret := ret) hy rfl ?_
  intro p e s m args below meth c s₁ B hml hv
  obtain ⟨rfl, hP, hD, hK, hN⟩ := hv
  have hts := atoms_spec (ws := xWs y b n ret) B.pre
  have hl := lv_entry as hn
  rw [lg_entry_eq]
  exact body p e s m as.toArray below meth c ⟨B.exec, B.bytes, hml, findClass_of_methodNamed B.named, fun w hw => hts w (List.mem_cons_of_mem _ hw), hK, hN, B.returns, B.notSynchronized⟩ s.heap [] _ hP hD va_S.rf hl
theorem xMv_of {y : MethodName} {b : ByteArray} {n fr lo : Nat} {ret : Option FieldType} {as : List Value} {G' : Mem} (hA : True) (hy : plainName y.cls = true) (hn : (lg_sl as).length ≤ n)
    (body : ∀ (p : Program) (e : Env) (s : State) (m : MethodId) (args : Array Value) (below : List Frame) (meth : Method) (c : Code), xC p s m args meth c b y.cls n ret D cy → xX p l e (xR fr lo) s m args below meth c A s.heap D cy ad kd NP n 0 0 (xQv below D cy ad kd NP A args s G') G 0 (lv_args 0 as) []) : xMv l D cy ad kd NP A y b n ret fr lo as G G' := by
  refine Met.ofW (cc := b) (maxL := n) (ret := ret) hy rfl ?_
  intro p e s m args below meth c s₁ B hml hv
  obtain ⟨rfl, hP, hD, hK, hN⟩ := hv
  have hts := atoms_spec (ws := xWs y b n ret) B.pre
  have hl := lv_entry as hn
  rw [lg_entry_eq]
  exact body p e s m as.toArray below meth c ⟨B.exec, B.bytes, hml, findClass_of_methodNamed B.named, fun w hw => hts w (List.mem_cons_of_mem _ hw), hK, hN, B.returns, B.notSynchronized⟩ s.heap [] _ hP hD va_S.rf hl
end
end
section
theorem nf_0 : (RX2, 25, "HedgeChains$Hedge", "length", "I") ∈ xNF := List.mem_of_getElem? (i := 0) rfl
theorem nf_1 : (RX8, 207, "HedgeChains$Hedge", "length", "I") ∈ xNF := List.mem_of_getElem? (i := 1) rfl
theorem nf_2 : (RX4, 135, "HedgeChains$Hedge", "length", "I") ∈ xNF := List.mem_of_getElem? (i := 2) rfl
theorem nf_3 : (RX5, 48, "HedgeChains$Contract", "made", "Z") ∈ xNF := List.mem_of_getElem? (i := 3) rfl
theorem nf_4 : (RX4, 84, "HedgeChains$Contract", "made", "Z") ∈ xNF := List.mem_of_getElem? (i := 4) rfl
theorem nf_5 : (RX8, 132, "HedgeChains$Contract", "made", "Z") ∈ xNF := List.mem_of_getElem? (i := 5) rfl
theorem nf_6 : (RX4, 88, "HedgeChains$Contract", "price", "I") ∈ xNF := List.mem_of_getElem? (i := 6) rfl
theorem nf_7 : (RX8, 232, "HedgeChains$Contract", "price", "I") ∈ xNF := List.mem_of_getElem? (i := 7) rfl
theorem nf_8 : (RX5, 57, "HedgeChains$Contract", "lastWeek", "I") ∈ xNF := List.mem_of_getElem? (i := 8) rfl
theorem nf_9 : (RX4, 114, "HedgeChains$Contract", "lastWeek", "I") ∈ xNF := List.mem_of_getElem? (i := 9) rfl
theorem nf_10 : (RX8, 235, "HedgeChains$Contract", "lastWeek", "I") ∈ xNF := List.mem_of_getElem? (i := 10) rfl
theorem nf_11 : (RX8, 142, "HedgeChains$Contract", "fine", "I") ∈ xNF := List.mem_of_getElem? (i := 11) rfl
theorem nf_12 : (RX4, 120, "HedgeChains$Contract", "fine", "I") ∈ xNF := List.mem_of_getElem? (i := 12) rfl
theorem nf_13 : (RX8, 96, "HedgeChains$Land", "hedges", "[LHedgeChains$Hedge;") ∈ xNF := List.mem_of_getElem? (i := 13) rfl
theorem nf_14 : (RX5, 44, "HedgeChains$Land", "contracts", "[LHedgeChains$Contract;") ∈ xNF := List.mem_of_getElem? (i := 14) rfl
theorem nf_15 : (RX8, 128, "HedgeChains$Land", "contracts", "[LHedgeChains$Contract;") ∈ xNF := List.mem_of_getElem? (i := 15) rfl
theorem nf_16 : (RX8, 57, "HedgeChains$Land", "week", "I") ∈ xNF := List.mem_of_getElem? (i := 16) rfl
theorem nf_17 : (RX5, 36, "HedgeChains$Land", "week", "I") ∈ xNF := List.mem_of_getElem? (i := 17) rfl
theorem nf_18 : (RX8, 93, "HedgeChains$Land", "work", "I") ∈ xNF := List.mem_of_getElem? (i := 18) rfl
theorem nf_19 : (RX8, 84, "HedgeChains$Land", "stakes", "I") ∈ xNF := List.mem_of_getElem? (i := 19) rfl
theorem nf_20 : (RX8, 149, "HedgeChains$Land", "purse", "I") ∈ xNF := List.mem_of_getElem? (i := 20) rfl
theorem nf_21 : (RX8, 152, "HedgeChains$Land", "debt", "I") ∈ xNF := List.mem_of_getElem? (i := 21) rfl
theorem nf_22 : (RX8, 208, "HedgeChains$Land", "earned", "I") ∈ xNF := List.mem_of_getElem? (i := 22) rfl
theorem nf_23 : (RX8, 211, "HedgeChains$Land", "fined", "I") ∈ xNF := List.mem_of_getElem? (i := 23) rfl
theorem nf_24 : (RX8, 217, "HedgeChains$Land", "laid", "I") ∈ xNF := List.mem_of_getElem? (i := 24) rfl
theorem nf_25 : (RX8, 220, "HedgeChains$Land", "planted", "I") ∈ xNF := List.mem_of_getElem? (i := 25) rfl
theorem nf_26 : (RX8, 16, "HedgeChains$State", "land", "LHedgeChains$Land;") ∈ xNF := List.mem_of_getElem? (i := 26) rfl
theorem nf_27 : (RX8, 171, "HedgeChains$State", "slots", "[LHedgeChains$Land;") ∈ xNF := List.mem_of_getElem? (i := 27) rfl
theorem nf_28 : (RX8, 167, "HedgeChains$State", "filled", "[Z") ∈ xNF := List.mem_of_getElem? (i := 28) rfl
theorem nf_29 : (RX8, 179, "HedgeChains$History", "kept", "I") ∈ xNF := List.mem_of_getElem? (i := 29) rfl
theorem nf_30 : (RX2, 32, "HedgeChains$Text", "length", "I") ∈ xNF := List.mem_of_getElem? (i := 30) rfl
theorem nf_31 : (RX8, 185, "HedgeChains$Text", "length", "I") ∈ xNF := List.mem_of_getElem? (i := 31) rfl
theorem nf_32 : (RX8, 199, "HedgeChains$HedgeReader", "hedge", "LHedgeChains$Hedge;") ∈ xNF := List.mem_of_getElem? (i := 32) rfl
theorem nf_33 : (RX8, 196, "HedgeChains$HedgeReader", "told", "I") ∈ xNF := List.mem_of_getElem? (i := 33) rfl
theorem nm_0 : (RX8, 9, yX6_init) ∈ xNM := List.mem_of_getElem? (i := 0) rfl
theorem nm_1 : (RX6, 11, yX4_init) ∈ xNM := List.mem_of_getElem? (i := 1) rfl
theorem nm_2 : (RX4, 23, yX1_init) ∈ xNM := List.mem_of_getElem? (i := 2) rfl
theorem nm_3 : (RX4, 24, yX1_addChains) ∈ xNM := List.mem_of_getElem? (i := 3) rfl
theorem nm_4 : (RX4, 28, yX0_init) ∈ xNM := List.mem_of_getElem? (i := 4) rfl
theorem nm_5 : (RX8, 23, yX3_init) ∈ xNM := List.mem_of_getElem? (i := 5) rfl
theorem nm_6 : (RX3, 17, yX6_init) ∈ xNM := List.mem_of_getElem? (i := 6) rfl
theorem nm_7 : (RX8, 30, yX7_init) ∈ xNM := List.mem_of_getElem? (i := 7) rfl
theorem nm_8 : (RX8, 37, yX2_init) ∈ xNM := List.mem_of_getElem? (i := 8) rfl
theorem nm_9 : (RX2, 11, yX1_init) ∈ xNM := List.mem_of_getElem? (i := 9) rfl
theorem nm_10 : (RX8, 44, yX5_init) ∈ xNM := List.mem_of_getElem? (i := 10) rfl
theorem nm_11 : (RX8, 265, yX1_has) ∈ xNM := List.mem_of_getElem? (i := 11) rfl
theorem nm_12 : (RX8, 63, yX4_isClosed) ∈ xNM := List.mem_of_getElem? (i := 12) rfl
theorem nm_13 : (RX8, 67, yX4_canLay) ∈ xNM := List.mem_of_getElem? (i := 13) rfl
theorem nm_14 : (RX4, 73, yX1_isToLay) ∈ xNM := List.mem_of_getElem? (i := 14) rfl
theorem nm_15 : (RX4, 77, yX1_thicknessOf) ∈ xNM := List.mem_of_getElem? (i := 15) rfl
theorem nm_16 : (RX8, 70, yX3_keep) ∈ xNM := List.mem_of_getElem? (i := 16) rfl
theorem nm_17 : (RX3, 25, yX6_copyFrom) ∈ xNM := List.mem_of_getElem? (i := 17) rfl
theorem nm_18 : (RX6, 26, yX4_copyFrom) ∈ xNM := List.mem_of_getElem? (i := 18) rfl
theorem nm_19 : (RX4, 48, yX1_copyFrom) ∈ xNM := List.mem_of_getElem? (i := 19) rfl
theorem nm_20 : (RX4, 52, yX0_copyFrom) ∈ xNM := List.mem_of_getElem? (i := 20) rfl
theorem nm_21 : (RX8, 74, yX4_layChain) ∈ xNM := List.mem_of_getElem? (i := 21) rfl
theorem nm_22 : (RX4, 81, yX1_changeChain) ∈ xNM := List.mem_of_getElem? (i := 22) rfl
theorem nm_23 : (RX4, 101, yX1_numberOf) ∈ xNM := List.mem_of_getElem? (i := 23) rfl
theorem nm_24 : (RX8, 78, yX4_canCut) ∈ xNM := List.mem_of_getElem? (i := 24) rfl
theorem nm_25 : (RX4, 95, yX1_isToCut) ∈ xNM := List.mem_of_getElem? (i := 25) rfl
theorem nm_26 : (RX8, 81, yX4_cutChain) ∈ xNM := List.mem_of_getElem? (i := 26) rfl
theorem nm_27 : (RX8, 87, yX4_canPlant) ∈ xNM := List.mem_of_getElem? (i := 27) rfl
theorem nm_28 : (RX4, 98, yX1_kindOf) ∈ xNM := List.mem_of_getElem? (i := 28) rfl
theorem nm_29 : (RX8, 90, yX4_plantChain) ∈ xNM := List.mem_of_getElem? (i := 29) rfl
theorem nm_30 : (RX8, 100, yX1_kindOf) ∈ xNM := List.mem_of_getElem? (i := 30) rfl
theorem nm_31 : (RX8, 106, yX4_grubChain) ∈ xNM := List.mem_of_getElem? (i := 31) rfl
theorem nm_32 : (RX8, 109, yX4_passWeek) ∈ xNM := List.mem_of_getElem? (i := 32) rfl
theorem nm_33 : (RX4, 104, yX1_grow) ∈ xNM := List.mem_of_getElem? (i := 33) rfl
theorem nm_34 : (RX8, 116, yX4_settingOf) ∈ xNM := List.mem_of_getElem? (i := 34) rfl
theorem nm_35 : (RX8, 119, yX4_changeSetting) ∈ xNM := List.mem_of_getElem? (i := 35) rfl
theorem nm_36 : (RX8, 125, yX1_numberOf) ∈ xNM := List.mem_of_getElem? (i := 36) rfl
theorem nm_37 : (RX8, 138, yX0_make) ∈ xNM := List.mem_of_getElem? (i := 37) rfl
theorem nm_38 : (RX8, 145, yX4_spend) ∈ xNM := List.mem_of_getElem? (i := 38) rfl
theorem nm_39 : (RX8, 164, yX6_fillSlot) ∈ xNM := List.mem_of_getElem? (i := 39) rfl
theorem nm_40 : (RX8, 175, yX4_copyFrom) ∈ xNM := List.mem_of_getElem? (i := 40) rfl
theorem nm_41 : (RX8, 182, yX3_bringBack) ∈ xNM := List.mem_of_getElem? (i := 41) rfl
theorem nm_42 : (RX8, 188, yX7_addSign) ∈ xNM := List.mem_of_getElem? (i := 42) rfl
theorem nm_43 : (RX8, 192, yX2_faultOf) ∈ xNM := List.mem_of_getElem? (i := 43) rfl
theorem nm_44 : (RX2, 35, yX7_signAt) ∈ xNM := List.mem_of_getElem? (i := 44) rfl
theorem nm_45 : (RX2, 50, yX1_addChains) ∈ xNM := List.mem_of_getElem? (i := 45) rfl
theorem nm_46 : (RX8, 203, yX4_replaceHedge) ∈ xNM := List.mem_of_getElem? (i := 46) rfl
theorem nm_47 : (RX8, 214, yX4_numberOfContracts) ∈ xNM := List.mem_of_getElem? (i := 47) rfl
theorem nm_48 : (RX8, 223, yX6_numberOfSnapshots) ∈ xNM := List.mem_of_getElem? (i := 48) rfl
theorem nm_49 : (RX8, 226, yX1_longestRunBegin) ∈ xNM := List.mem_of_getElem? (i := 49) rfl
theorem nm_50 : (RX8, 229, yX1_runFrom) ∈ xNM := List.mem_of_getElem? (i := 50) rfl
theorem nm_51 : (RX8, 238, yX1_thicknessOf) ∈ xNM := List.mem_of_getElem? (i := 51) rfl
theorem nm_52 : (RX8, 241, yX1_ageOf) ∈ xNM := List.mem_of_getElem? (i := 52) rfl
theorem nm_53 : (RX8, 244, yX1_workToLay) ∈ xNM := List.mem_of_getElem? (i := 53) rfl
theorem nm_54 : (RX8, 247, yX1_stakesToLay) ∈ xNM := List.mem_of_getElem? (i := 54) rfl
theorem nm_55 : (RX8, 250, yX1_stakesToCut) ∈ xNM := List.mem_of_getElem? (i := 55) rfl
theorem nm_56 : (RX8, 253, yX4_weeksUntilLaid) ∈ xNM := List.mem_of_getElem? (i := 56) rfl
theorem nm_57 : (RX8, 256, yX5_reckon) ∈ xNM := List.mem_of_getElem? (i := 57) rfl
theorem nm_58 : (RX5, 54, yX4_weeksOfWork) ∈ xNM := List.mem_of_getElem? (i := 58) rfl
theorem nm_59 : (RX4, 141, yX1_workToLay) ∈ xNM := List.mem_of_getElem? (i := 59) rfl
theorem nm_60 : (RX5, 60, yX4_finePerWeek) ∈ xNM := List.mem_of_getElem? (i := 60) rfl
theorem nm_61 : (RX8, 259, yX5_leastFines) ∈ xNM := List.mem_of_getElem? (i := 61) rfl
theorem nm_62 : (RX8, 262, yX5_firstField) ∈ xNM := List.mem_of_getElem? (i := 62) rfl
theorem mwX1_init : xW yX1_init cX1_init 1 none 0 := ⟨w_4, w_40, by decide +kernel, by decide +kernel, by decide +kernel⟩
theorem mwX1_has : xW yX1_has cX1_has 2 (some .boolean) 1 := ⟨w_4, w_70, by decide +kernel, by decide +kernel, by decide +kernel⟩
theorem mvX1_has : xWv yX1_has := ⟨w_69, ws_2⟩
theorem mwX1_changeChain : xW yX1_changeChain cX1_changeChain 4 none 3 := ⟨w_4, w_66, by decide +kernel, by decide +kernel, by decide +kernel⟩
theorem mvX1_changeChain : xWv yX1_changeChain := ⟨w_65, ws_1⟩
theorem mwX1_addChains : xW yX1_addChains cX1_addChains 5 none 3 := ⟨w_4, w_62, by decide +kernel, by decide +kernel, by decide +kernel⟩
theorem mvX1_addChains : xWv yX1_addChains := ⟨w_61, ws_0⟩
theorem mwX0_init : xW yX0_init cX0_init 1 none 0 := ⟨w_5, w_74, by decide +kernel, by decide +kernel, by decide +kernel⟩
theorem mwX4_init : xW yX4_init cX4_init 2 none 0 := ⟨w_3, w_31, by decide +kernel, by decide +kernel, by decide +kernel⟩
theorem mwX6_init : xW yX6_init cX6_init 2 none 0 := ⟨w_2, w_25, by decide +kernel, by decide +kernel, by decide +kernel⟩
theorem mwX3_init : xW yX3_init cX3_init 2 none 0 := ⟨w_6, w_174, by decide +kernel, by decide +kernel, by decide +kernel⟩
theorem mwX7_init : xW yX7_init cX7_init 1 none 0 := ⟨w_7, w_194, by decide +kernel, by decide +kernel, by decide +kernel⟩
theorem mwX2_init : xW yX2_init cX2_init 1 none 0 := ⟨w_8, w_210, by decide +kernel, by decide +kernel, by decide +kernel⟩
theorem mwX5_init : xW yX5_init cX5_init 1 none 0 := ⟨w_9, w_230, by decide +kernel, by decide +kernel, by decide +kernel⟩
theorem mwX8_init : xW yX8_init cX8_init 1 none 0 := ⟨w_1, w_17, by decide +kernel, by decide +kernel, by decide +kernel⟩
theorem mwX8_isWithin : xW yX8_isWithin cX8_isWithin 3 (some .boolean) 3 := ⟨w_1, w_283, by decide +kernel, by decide +kernel, by decide +kernel⟩
theorem mwX8_isField : xW yX8_isField cX8_isField 1 (some .boolean) 1 := ⟨w_1, w_280, by decide +kernel, by decide +kernel, by decide +kernel⟩
theorem mwX8_isChain : xW yX8_isChain cX8_isChain 3 (some .boolean) 2 := ⟨w_1, w_277, by decide +kernel, by decide +kernel, by decide +kernel⟩
theorem mvX8_isChain : xWv yX8_isChain := ⟨w_276, ws_3⟩
theorem mwX4_isClosed : xW yX4_isClosed cX4_isClosed 3 (some .boolean) 1 := ⟨w_3, w_288, by decide +kernel, by decide +kernel, by decide +kernel⟩
theorem mvX4_isClosed : xWv yX4_isClosed := ⟨w_287, ws_4⟩
theorem mwX1_isToLay : xW yX1_isToLay cX1_isToLay 2 (some .boolean) 1 := ⟨w_4, w_296, by decide +kernel, by decide +kernel, by decide +kernel⟩
theorem mvX1_isToLay : xWv yX1_isToLay := ⟨w_295, ws_6⟩
theorem mwX1_thicknessOf : xW yX1_thicknessOf cX1_thicknessOf 2 (some .int) 1 := ⟨w_4, w_300, by decide +kernel, by decide +kernel, by decide +kernel⟩
theorem mvX1_thicknessOf : xWv yX1_thicknessOf := ⟨w_299, ws_7⟩
theorem mwX4_canLay : xW yX4_canLay cX4_canLay 4 (some .boolean) 2 := ⟨w_3, w_292, by decide +kernel, by decide +kernel, by decide +kernel⟩
theorem mvX4_canLay : xWv yX4_canLay := ⟨w_291, ws_5⟩
theorem mwX1_copyFrom : xW yX1_copyFrom cX1_copyFrom 2 none 1 := ⟨w_4, w_316, by decide +kernel, by decide +kernel, by decide +kernel⟩
theorem mvX1_copyFrom : xWv yX1_copyFrom := ⟨w_315, ws_11⟩
theorem mwX0_copyFrom : xW yX0_copyFrom cX0_copyFrom 2 none 1 := ⟨w_5, w_323, by decide +kernel, by decide +kernel, by decide +kernel⟩
theorem mvX0_copyFrom : xWv yX0_copyFrom := ⟨w_322, ws_12⟩
theorem mwX4_copyFrom : xW yX4_copyFrom cX4_copyFrom 3 none 1 := ⟨w_3, w_312, by decide +kernel, by decide +kernel, by decide +kernel⟩
theorem mvX4_copyFrom : xWv yX4_copyFrom := ⟨w_311, ws_10⟩
theorem mwX6_copyFrom : xW yX6_copyFrom cX6_copyFrom 3 none 1 := ⟨w_2, w_308, by decide +kernel, by decide +kernel, by decide +kernel⟩
theorem mvX6_copyFrom : xWv yX6_copyFrom := ⟨w_307, ws_9⟩
theorem mwX3_keep : xW yX3_keep cX3_keep 2 none 1 := ⟨w_6, w_304, by decide +kernel, by decide +kernel, by decide +kernel⟩
theorem mvX3_keep : xWv yX3_keep := ⟨w_303, ws_8⟩
theorem mwX1_kindOf : xW yX1_kindOf cX1_kindOf 2 (some .int) 1 := ⟨w_4, w_343, by decide +kernel, by decide +kernel, by decide +kernel⟩
theorem mvX1_kindOf : xWv yX1_kindOf := ⟨w_342, ws_16⟩
theorem mwX1_numberOf : xW yX1_numberOf cX1_numberOf 4 (some .int) 1 := ⟨w_4, w_339, by decide +kernel, by decide +kernel, by decide +kernel⟩
theorem mvX1_numberOf : xWv yX1_numberOf := ⟨w_338, ws_15⟩
theorem mwX4_endContractIfNoneStands : xW yX4_endContractIfNoneStands cX4_endContractIfNoneStands 2 none 1 := ⟨w_3, w_335, by decide +kernel, by decide +kernel, by decide +kernel⟩
theorem mvX4_endContractIfNoneStands : xWv yX4_endContractIfNoneStands := ⟨w_334, ws_14⟩
theorem mwX4_layChain : xW yX4_layChain cX4_layChain 5 none 2 := ⟨w_3, w_330, by decide +kernel, by decide +kernel, by decide +kernel⟩
theorem mvX4_layChain : xWv yX4_layChain := ⟨w_329, ws_13⟩
theorem mwX8_lay : xW yX8_lay cX8_lay 5 (some .int) 3 := ⟨w_1, w_273, by decide +kernel, by decide +kernel, by decide +kernel⟩
theorem mvX8_lay : xWv yX8_lay := ⟨w_271, w_272⟩
theorem mwX1_isToCut : xW yX1_isToCut cX1_isToCut 2 (some .boolean) 1 := ⟨w_4, w_355, by decide +kernel, by decide +kernel, by decide +kernel⟩
theorem mvX1_isToCut : xWv yX1_isToCut := ⟨w_354, ws_18⟩
theorem mwX4_canCut : xW yX4_canCut cX4_canCut 3 (some .boolean) 2 := ⟨w_3, w_351, by decide +kernel, by decide +kernel, by decide +kernel⟩
theorem mvX4_canCut : xWv yX4_canCut := ⟨w_350, ws_17⟩
theorem mwX4_cutChain : xW yX4_cutChain cX4_cutChain 4 none 2 := ⟨w_3, w_359, by decide +kernel, by decide +kernel, by decide +kernel⟩
theorem mvX4_cutChain : xWv yX4_cutChain := ⟨w_358, ws_19⟩
theorem mwX8_cut : xW yX8_cut cX8_cut 3 (some .int) 2 := ⟨w_1, w_347, by decide +kernel, by decide +kernel, by decide +kernel⟩
theorem mvX8_cut : xWv yX8_cut := ⟨w_345, w_346⟩
theorem mwX4_canPlant : xW yX4_canPlant cX4_canPlant 3 (some .boolean) 2 := ⟨w_3, w_367, by decide +kernel, by decide +kernel, by decide +kernel⟩
theorem mvX4_canPlant : xWv yX4_canPlant := ⟨w_366, ws_20⟩
theorem mwX4_plantChain : xW yX4_plantChain cX4_plantChain 3 none 2 := ⟨w_3, w_372, by decide +kernel, by decide +kernel, by decide +kernel⟩
theorem mvX4_plantChain : xWv yX4_plantChain := ⟨w_371, ws_21⟩
theorem mwX8_plant : xW yX8_plant cX8_plant 3 (some .int) 2 := ⟨w_1, w_363, by decide +kernel, by decide +kernel, by decide +kernel⟩
theorem mvX8_plant : xWv yX8_plant := ⟨w_361, w_362⟩
theorem mwX4_grubChain : xW yX4_grubChain cX4_grubChain 3 none 2 := ⟨w_3, w_381, by decide +kernel, by decide +kernel, by decide +kernel⟩
theorem mvX4_grubChain : xWv yX4_grubChain := ⟨w_380, ws_22⟩
theorem mwX8_grub : xW yX8_grub cX8_grub 4 (some .int) 2 := ⟨w_1, w_376, by decide +kernel, by decide +kernel, by decide +kernel⟩
theorem mvX8_grub : xWv yX8_grub := ⟨w_374, w_375⟩
theorem mwX1_ageOf : xW yX1_ageOf cX1_ageOf 2 (some .int) 1 := ⟨w_4, w_401, by decide +kernel, by decide +kernel, by decide +kernel⟩
theorem mvX1_ageOf : xWv yX1_ageOf := ⟨w_400, ws_26⟩
theorem mwX1_growOlder : xW yX1_growOlder cX1_growOlder 2 none 1 := ⟨w_4, w_397, by decide +kernel, by decide +kernel, by decide +kernel⟩
theorem mvX1_growOlder : xWv yX1_growOlder := ⟨w_396, ws_25⟩
theorem mwX1_growLaid : xW yX1_growLaid cX1_growLaid 3 none 1 := ⟨w_4, w_407, by decide +kernel, by decide +kernel, by decide +kernel⟩
theorem mvX1_growLaid : xWv yX1_growLaid := ⟨w_406, ws_27⟩
theorem mwX1_grow : xW yX1_grow cX1_grow 4 none 1 := ⟨w_4, w_393, by decide +kernel, by decide +kernel, by decide +kernel⟩
theorem mvX1_grow : xWv yX1_grow := ⟨w_392, ws_24⟩
theorem mwX4_finePerWeek : xW yX4_finePerWeek cX4_finePerWeek 2 (some .int) 1 := ⟨w_3, w_415, by decide +kernel, by decide +kernel, by decide +kernel⟩
theorem mvX4_finePerWeek : xWv yX4_finePerWeek := ⟨w_414, ws_29⟩
theorem mwX4_finesDue : xW yX4_finesDue cX4_finesDue 3 (some .int) 0 := ⟨w_3, w_411, by decide +kernel, by decide +kernel, by decide +kernel⟩
theorem mvX4_finesDue : xWv yX4_finesDue := ⟨w_410, ws_28⟩
theorem mwX4_spend : xW yX4_spend cX4_spend 3 none 1 := ⟨w_3, w_419, by decide +kernel, by decide +kernel, by decide +kernel⟩
theorem mvX4_spend : xWv yX4_spend := ⟨w_418, ws_30⟩
theorem mwX4_passWeek : xW yX4_passWeek cX4_passWeek 2 (some .int) 0 := ⟨w_3, w_389, by decide +kernel, by decide +kernel, by decide +kernel⟩
theorem mvX4_passWeek : xWv yX4_passWeek := ⟨w_388, ws_23⟩
theorem mwX8_pass : xW yX8_pass cX8_pass 4 (some .int) 1 := ⟨w_1, w_385, by decide +kernel, by decide +kernel, by decide +kernel⟩
theorem mvX8_pass : xWv yX8_pass := ⟨w_383, w_384⟩
theorem mwX8_canBeSet : xW yX8_canBeSet cX8_canBeSet 2 (some .boolean) 2 := ⟨w_1, w_427, by decide +kernel, by decide +kernel, by decide +kernel⟩
theorem mwX4_settingOf : xW yX4_settingOf cX4_settingOf 2 (some .int) 1 := ⟨w_3, w_431, by decide +kernel, by decide +kernel, by decide +kernel⟩
theorem mvX4_settingOf : xWv yX4_settingOf := ⟨w_430, ws_31⟩
theorem mwX4_changeSetting : xW yX4_changeSetting cX4_changeSetting 3 none 2 := ⟨w_3, w_435, by decide +kernel, by decide +kernel, by decide +kernel⟩
theorem mvX4_changeSetting : xWv yX4_changeSetting := ⟨w_434, ws_32⟩
theorem mwX8_set : xW yX8_set cX8_set 4 (some .int) 2 := ⟨w_1, w_424, by decide +kernel, by decide +kernel, by decide +kernel⟩
theorem mvX8_set : xWv yX8_set := ⟨w_422, w_423⟩
theorem mwX0_make : xW yX0_make cX0_make 4 none 3 := ⟨w_5, w_447, by decide +kernel, by decide +kernel, by decide +kernel⟩
theorem mvX0_make : xWv yX0_make := ⟨w_446, ws_33⟩
theorem mwX8_contract : xW yX8_contract cX8_contract 6 (some .int) 4 := ⟨w_1, w_442, by decide +kernel, by decide +kernel, by decide +kernel⟩
theorem mvX8_contract : xWv yX8_contract := ⟨w_440, w_441⟩
theorem mwX8_giveBack : xW yX8_giveBack cX8_giveBack 4 (some .int) 1 := ⟨w_1, w_451, by decide +kernel, by decide +kernel, by decide +kernel⟩
theorem mvX8_giveBack : xWv yX8_giveBack := ⟨w_449, w_450⟩
theorem mwX8_payDebt : xW yX8_payDebt cX8_payDebt 2 (some .int) 0 := ⟨w_1, w_456, by decide +kernel, by decide +kernel, by decide +kernel⟩
theorem mvX8_payDebt : xWv yX8_payDebt := ⟨w_454, w_455⟩
theorem mwX8_isSlot : xW yX8_isSlot cX8_isSlot 1 (some .boolean) 1 := ⟨w_1, w_464, by decide +kernel, by decide +kernel, by decide +kernel⟩
theorem mwX6_fillSlot : xW yX6_fillSlot cX6_fillSlot 2 none 1 := ⟨w_2, w_468, by decide +kernel, by decide +kernel, by decide +kernel⟩
theorem mvX6_fillSlot : xWv yX6_fillSlot := ⟨w_467, ws_34⟩
theorem mwX8_take : xW yX8_take cX8_take 2 (some .int) 1 := ⟨w_1, w_461, by decide +kernel, by decide +kernel, by decide +kernel⟩
theorem mvX8_take : xWv yX8_take := ⟨w_459, w_460⟩
theorem mwX8_restore : xW yX8_restore cX8_restore 2 (some .int) 1 := ⟨w_1, w_472, by decide +kernel, by decide +kernel, by decide +kernel⟩
theorem mvX8_restore : xWv yX8_restore := ⟨w_470, w_471⟩
theorem mwX3_bringBack : xW yX3_bringBack cX3_bringBack 2 none 1 := ⟨w_6, w_481, by decide +kernel, by decide +kernel, by decide +kernel⟩
theorem mvX3_bringBack : xWv yX3_bringBack := ⟨w_480, ws_35⟩
theorem mwX8_undo : xW yX8_undo cX8_undo 1 (some .int) 0 := ⟨w_1, w_477, by decide +kernel, by decide +kernel, by decide +kernel⟩
theorem mvX8_undo : xWv yX8_undo := ⟨w_475, w_476⟩
theorem mwX7_addSign : xW yX7_addSign cX7_addSign 2 none 1 := ⟨w_7, w_489, by decide +kernel, by decide +kernel, by decide +kernel⟩
theorem mvX7_addSign : xWv yX7_addSign := ⟨w_488, ws_36⟩
theorem mwX8_append : xW yX8_append cX8_append 2 (some .int) 1 := ⟨w_1, w_485, by decide +kernel, by decide +kernel, by decide +kernel⟩
theorem mvX8_append : xWv yX8_append := ⟨w_483, w_484⟩
theorem mwX8_clearText : xW yX8_clearText cX8_clearText 2 (some .int) 0 := ⟨w_1, w_493, by decide +kernel, by decide +kernel, by decide +kernel⟩
theorem mvX8_clearText : xWv yX8_clearText := ⟨w_491, w_492⟩
theorem mwX7_signAt : xW yX7_signAt cX7_signAt 2 (some .char) 1 := ⟨w_7, w_509, by decide +kernel, by decide +kernel, by decide +kernel⟩
theorem mvX7_signAt : xWv yX7_signAt := ⟨w_508, ws_39⟩
theorem mwX2_kindFor : xW yX2_kindFor cX2_kindFor 1 (some .int) 1 := ⟨w_8, w_512, by decide +kernel, by decide +kernel, by decide +kernel⟩
theorem mwX2_digitFor : xW yX2_digitFor cX2_digitFor 1 (some .int) 1 := ⟨w_8, w_515, by decide +kernel, by decide +kernel, by decide +kernel⟩
theorem mwX2_readNumber : xW yX2_readNumber cX2_readNumber 3 (some .int) 1 := ⟨w_8, w_519, by decide +kernel, by decide +kernel, by decide +kernel⟩
theorem mvX2_readNumber : xWv yX2_readNumber := ⟨w_518, ws_40⟩
theorem mwX2_readPart : xW yX2_readPart cX2_readPart 5 (some .boolean) 1 := ⟨w_8, w_505, by decide +kernel, by decide +kernel, by decide +kernel⟩
theorem mvX2_readPart : xWv yX2_readPart := ⟨w_504, ws_38⟩
theorem mwX2_faultOf : xW yX2_faultOf cX2_faultOf 3 (some .int) 1 := ⟨w_8, w_501, by decide +kernel, by decide +kernel, by decide +kernel⟩
theorem mvX2_faultOf : xWv yX2_faultOf := ⟨w_500, ws_37⟩
theorem mwX4_replaceHedge : xW yX4_replaceHedge cX4_replaceHedge 3 none 2 := ⟨w_3, w_524, by decide +kernel, by decide +kernel, by decide +kernel⟩
theorem mvX4_replaceHedge : xWv yX4_replaceHedge := ⟨w_523, ws_41⟩
theorem mwX8_read : xW yX8_read cX8_read 3 (some .int) 1 := ⟨w_1, w_497, by decide +kernel, by decide +kernel, by decide +kernel⟩
theorem mvX8_read : xWv yX8_read := ⟨w_495, w_496⟩
theorem mwX4_numberOfContracts : xW yX4_numberOfContracts cX4_numberOfContracts 3 (some .int) 0 := ⟨w_3, w_532, by decide +kernel, by decide +kernel, by decide +kernel⟩
theorem mvX4_numberOfContracts : xWv yX4_numberOfContracts := ⟨w_531, ws_42⟩
theorem mwX6_numberOfSnapshots : xW yX6_numberOfSnapshots cX6_numberOfSnapshots 3 (some .int) 0 := ⟨w_2, w_536, by decide +kernel, by decide +kernel, by decide +kernel⟩
theorem mvX6_numberOfSnapshots : xWv yX6_numberOfSnapshots := ⟨w_535, ws_43⟩
theorem mwX8_count : xW yX8_count cX8_count 2 (some .int) 1 := ⟨w_1, w_528, by decide +kernel, by decide +kernel, by decide +kernel⟩
theorem mvX8_count : xWv yX8_count := ⟨w_526, w_527⟩
theorem mwX1_runFrom : xW yX1_runFrom cX1_runFrom 3 (some .int) 1 := ⟨w_4, w_548, by decide +kernel, by decide +kernel, by decide +kernel⟩
theorem mvX1_runFrom : xWv yX1_runFrom := ⟨w_547, ws_45⟩
theorem mwX1_longestRunBegin : xW yX1_longestRunBegin cX1_longestRunBegin 5 (some .int) 0 := ⟨w_4, w_544, by decide +kernel, by decide +kernel, by decide +kernel⟩
theorem mvX1_longestRunBegin : xWv yX1_longestRunBegin := ⟨w_543, ws_44⟩
theorem mwX8_field : xW yX8_field cX8_field 5 (some .int) 2 := ⟨w_1, w_540, by decide +kernel, by decide +kernel, by decide +kernel⟩
theorem mvX8_field : xWv yX8_field := ⟨w_538, w_539⟩
theorem mwX8_chain : xW yX8_chain cX8_chain 5 (some .int) 3 := ⟨w_1, w_553, by decide +kernel, by decide +kernel, by decide +kernel⟩
theorem mvX8_chain : xWv yX8_chain := ⟨w_551, w_552⟩
theorem mwX1_workToLay : xW yX1_workToLay cX1_workToLay 3 (some .int) 0 := ⟨w_4, w_563, by decide +kernel, by decide +kernel, by decide +kernel⟩
theorem mvX1_workToLay : xWv yX1_workToLay := ⟨w_562, ws_46⟩
theorem mwX1_stakesToLay : xW yX1_stakesToLay cX1_stakesToLay 3 (some .int) 0 := ⟨w_4, w_568, by decide +kernel, by decide +kernel, by decide +kernel⟩
theorem mvX1_stakesToLay : xWv yX1_stakesToLay := ⟨w_567, ws_47⟩
theorem mwX8_toLay : xW yX8_toLay cX8_toLay 4 (some .int) 2 := ⟨w_1, w_559, by decide +kernel, by decide +kernel, by decide +kernel⟩
theorem mvX8_toLay : xWv yX8_toLay := ⟨w_557, w_558⟩
theorem mwX1_stakesOf : xW yX1_stakesOf cX1_stakesOf 3 (some .int) 1 := ⟨w_4, w_579, by decide +kernel, by decide +kernel, by decide +kernel⟩
theorem mwX1_stakesToCut : xW yX1_stakesToCut cX1_stakesToCut 3 (some .int) 0 := ⟨w_4, w_576, by decide +kernel, by decide +kernel, by decide +kernel⟩
theorem mvX1_stakesToCut : xWv yX1_stakesToCut := ⟨w_575, ws_48⟩
theorem mwX8_stakesIn : xW yX8_stakesIn cX8_stakesIn 2 (some .int) 1 := ⟨w_1, w_572, by decide +kernel, by decide +kernel, by decide +kernel⟩
theorem mvX8_stakesIn : xWv yX8_stakesIn := ⟨w_570, w_571⟩
theorem mwX4_workAfter : xW yX4_workAfter cX4_workAfter 2 (some .int) 1 := ⟨w_3, w_591, by decide +kernel, by decide +kernel, by decide +kernel⟩
theorem mvX4_workAfter : xWv yX4_workAfter := ⟨w_590, ws_50⟩
theorem mwX4_weeksUntilLaid : xW yX4_weeksUntilLaid cX4_weeksUntilLaid 7 (some .int) 1 := ⟨w_3, w_587, by decide +kernel, by decide +kernel, by decide +kernel⟩
theorem mvX4_weeksUntilLaid : xWv yX4_weeksUntilLaid := ⟨w_586, ws_49⟩
theorem mwX8_doneIn : xW yX8_doneIn cX8_doneIn 2 (some .int) 1 := ⟨w_1, w_583, by decide +kernel, by decide +kernel, by decide +kernel⟩
theorem mvX8_doneIn : xWv yX8_doneIn := ⟨w_581, w_582⟩
theorem mwX4_weeksOfWork : xW yX4_weeksOfWork cX4_weeksOfWork 2 (some .int) 1 := ⟨w_3, w_608, by decide +kernel, by decide +kernel, by decide +kernel⟩
theorem mvX4_weeksOfWork : xWv yX4_weeksOfWork := ⟨w_607, ws_53⟩
theorem mwX5_lookAt : xW yX5_lookAt cX5_lookAt 3 none 1 := ⟨w_9, w_604, by decide +kernel, by decide +kernel, by decide +kernel⟩
theorem mvX5_lookAt : xWv yX5_lookAt := ⟨w_603, ws_52⟩
theorem mwX5_isIn : xW yX5_isIn cX5_isIn 2 (some .boolean) 2 := ⟨w_9, w_618, by decide +kernel, by decide +kernel, by decide +kernel⟩
theorem mwX5_finesIfNext : xW yX5_finesIfNext cX5_finesIfNext 5 (some .int) 2 := ⟨w_9, w_622, by decide +kernel, by decide +kernel, by decide +kernel⟩
theorem mvX5_finesIfNext : xWv yX5_finesIfNext := ⟨w_621, ws_55⟩
theorem mwX5_leastOf : xW yX5_leastOf cX5_leastOf 4 (some .int) 1 := ⟨w_9, w_614, by decide +kernel, by decide +kernel, by decide +kernel⟩
theorem mvX5_leastOf : xWv yX5_leastOf := ⟨w_613, ws_54⟩
theorem mwX5_reckon : xW yX5_reckon cX5_reckon 3 none 1 := ⟨w_9, w_600, by decide +kernel, by decide +kernel, by decide +kernel⟩
theorem mvX5_reckon : xWv yX5_reckon := ⟨w_599, ws_51⟩
theorem mwX5_leastFines : xW yX5_leastFines cX5_leastFines 1 (some .int) 0 := ⟨w_9, w_628, by decide +kernel, by decide +kernel, by decide +kernel⟩
theorem mvX5_leastFines : xWv yX5_leastFines := ⟨w_627, ws_56⟩
theorem mwX5_firstField : xW yX5_firstField cX5_firstField 2 (some .int) 0 := ⟨w_9, w_632, by decide +kernel, by decide +kernel, by decide +kernel⟩
theorem mvX5_firstField : xWv yX5_firstField := ⟨w_631, ws_57⟩
theorem mwX8_bestOrder : xW yX8_bestOrder cX8_bestOrder 2 (some .int) 1 := ⟨w_1, w_596, by decide +kernel, by decide +kernel, by decide +kernel⟩
theorem mvX8_bestOrder : xWv yX8_bestOrder := ⟨w_594, w_595⟩
theorem mwX9_lays : xW yX9_lays cX9_lays 5 none 4 := ⟨w_10, w_642, by decide +kernel, by decide +kernel, by decide +kernel⟩
theorem mvX9_lays : xWv yX9_lays := ⟨w_641, ws_58⟩
theorem mwX9_init : xW yX9_init cX9_init 3 none 0 := ⟨w_10, w_637, by decide +kernel, by decide +kernel, by decide +kernel⟩
theorem mwX9_in : xW yX9_in cX9_in 3 (some .boolean) 3 := ⟨w_10, w_690, by decide +kernel, by decide +kernel, by decide +kernel⟩
theorem mwX9_isField : xW yX9_isField cX9_isField 1 (some .boolean) 1 := ⟨w_10, w_687, by decide +kernel, by decide +kernel, by decide +kernel⟩
theorem mwX9_isChain : xW yX9_isChain cX9_isChain 3 (some .boolean) 2 := ⟨w_10, w_684, by decide +kernel, by decide +kernel, by decide +kernel⟩
theorem mvX9_isChain : xWv yX9_isChain := ⟨w_683, ws_59⟩
theorem mwX9_isClosed : xW yX9_isClosed cX9_isClosed 3 (some .boolean) 1 := ⟨w_10, w_694, by decide +kernel, by decide +kernel, by decide +kernel⟩
theorem mvX9_isClosed : xWv yX9_isClosed := ⟨w_693, ws_60⟩
theorem mwX9_thickness : xW yX9_thickness cX9_thickness 3 (some .int) 2 := ⟨w_10, w_702, by decide +kernel, by decide +kernel, by decide +kernel⟩
theorem mvX9_thickness : xWv yX9_thickness := ⟨w_701, ws_62⟩
theorem mwX9_kindOf : xW yX9_kindOf cX9_kindOf 3 (some .int) 2 := ⟨w_10, w_706, by decide +kernel, by decide +kernel, by decide +kernel⟩
theorem mvX9_kindOf : xWv yX9_kindOf := ⟨w_705, ws_63⟩
theorem mwX9_canLay : xW yX9_canLay cX9_canLay 4 (some .boolean) 2 := ⟨w_10, w_698, by decide +kernel, by decide +kernel, by decide +kernel⟩
theorem mvX9_canLay : xWv yX9_canLay := ⟨w_697, ws_61⟩
theorem mwX9_keeps : xW yX9_keeps cX9_keeps 2 none 0 := ⟨w_10, w_710, by decide +kernel, by decide +kernel, by decide +kernel⟩
theorem mvX9_keeps : xWv yX9_keeps := ⟨w_709, ws_64⟩
theorem mwX9_con : xW yX9_con cX9_con 3 (some .int) 2 := ⟨w_10, w_714, by decide +kernel, by decide +kernel, by decide +kernel⟩
theorem mvX9_con : xWv yX9_con := ⟨w_713, ws_65⟩
theorem mwX9_ofKind : xW yX9_ofKind cX9_ofKind 5 (some .int) 2 := ⟨w_10, w_722, by decide +kernel, by decide +kernel, by decide +kernel⟩
theorem mvX9_ofKind : xWv yX9_ofKind := ⟨w_721, ws_67⟩
theorem mwX9_ends : xW yX9_ends cX9_ends 3 none 1 := ⟨w_10, w_718, by decide +kernel, by decide +kernel, by decide +kernel⟩
theorem mvX9_ends : xWv yX9_ends := ⟨w_717, ws_66⟩
theorem mwX9_acted : xW yX9_acted cX9_acted 3 (some .int) 1 := ⟨w_10, w_726, by decide +kernel, by decide +kernel, by decide +kernel⟩
theorem mvX9_acted : xWv yX9_acted := ⟨w_725, ws_68⟩
theorem mwX9_lay : xW yX9_lay cX9_lay 6 (some .int) 3 := ⟨w_10, w_680, by decide +kernel, by decide +kernel, by decide +kernel⟩
theorem mvX9_lay : xWv yX9_lay := ⟨w_678, w_679⟩
theorem mwX9_cut : xW yX9_cut cX9_cut 4 (some .int) 2 := ⟨w_10, w_730, by decide +kernel, by decide +kernel, by decide +kernel⟩
theorem mvX9_cut : xWv yX9_cut := ⟨w_728, w_729⟩
theorem mwX9_plant : xW yX9_plant cX9_plant 3 (some .int) 2 := ⟨w_10, w_734, by decide +kernel, by decide +kernel, by decide +kernel⟩
theorem mvX9_plant : xWv yX9_plant := ⟨w_732, w_733⟩
theorem mwX9_grub : xW yX9_grub cX9_grub 4 (some .int) 2 := ⟨w_10, w_738, by decide +kernel, by decide +kernel, by decide +kernel⟩
theorem mvX9_grub : xWv yX9_grub := ⟨w_736, w_737⟩
theorem mwX9_age : xW yX9_age cX9_age 3 (some .int) 2 := ⟨w_10, w_754, by decide +kernel, by decide +kernel, by decide +kernel⟩
theorem mvX9_age : xWv yX9_age := ⟨w_753, ws_71⟩
theorem mwX9_grows : xW yX9_grows cX9_grows 5 none 2 := ⟨w_10, w_750, by decide +kernel, by decide +kernel, by decide +kernel⟩
theorem mvX9_grows : xWv yX9_grows := ⟨w_749, ws_70⟩
theorem mwX9_pays : xW yX9_pays cX9_pays 3 none 1 := ⟨w_10, w_758, by decide +kernel, by decide +kernel, by decide +kernel⟩
theorem mvX9_pays : xWv yX9_pays := ⟨w_757, ws_72⟩
theorem mwX9_passesOne : xW yX9_passesOne cX9_passesOne 4 (some .int) 0 := ⟨w_10, w_746, by decide +kernel, by decide +kernel, by decide +kernel⟩
theorem mvX9_passesOne : xWv yX9_passesOne := ⟨w_745, ws_69⟩
theorem mwX9_pass : xW yX9_pass cX9_pass 4 (some .int) 1 := ⟨w_10, w_742, by decide +kernel, by decide +kernel, by decide +kernel⟩
theorem mvX9_pass : xWv yX9_pass := ⟨w_740, w_741⟩
theorem mwX9_set : xW yX9_set cX9_set 5 (some .int) 2 := ⟨w_10, w_762, by decide +kernel, by decide +kernel, by decide +kernel⟩
theorem mvX9_set : xWv yX9_set := ⟨w_760, w_761⟩
theorem mwX9_contract : xW yX9_contract cX9_contract 6 (some .int) 4 := ⟨w_10, w_766, by decide +kernel, by decide +kernel, by decide +kernel⟩
theorem mvX9_contract : xWv yX9_contract := ⟨w_764, w_765⟩
theorem mwX9_giveBack : xW yX9_giveBack cX9_giveBack 4 (some .int) 1 := ⟨w_10, w_770, by decide +kernel, by decide +kernel, by decide +kernel⟩
theorem mvX9_giveBack : xWv yX9_giveBack := ⟨w_768, w_769⟩
theorem mwX9_payDebt : xW yX9_payDebt cX9_payDebt 2 (some .int) 0 := ⟨w_10, w_774, by decide +kernel, by decide +kernel, by decide +kernel⟩
theorem mvX9_payDebt : xWv yX9_payDebt := ⟨w_772, w_773⟩
theorem mwX9_take : xW yX9_take cX9_take 4 (some .int) 1 := ⟨w_10, w_778, by decide +kernel, by decide +kernel, by decide +kernel⟩
theorem mvX9_take : xWv yX9_take := ⟨w_776, w_777⟩
theorem mwX9_restore : xW yX9_restore cX9_restore 4 (some .int) 1 := ⟨w_10, w_782, by decide +kernel, by decide +kernel, by decide +kernel⟩
theorem mvX9_restore : xWv yX9_restore := ⟨w_780, w_781⟩
theorem mwX9_undo : xW yX9_undo cX9_undo 2 (some .int) 0 := ⟨w_10, w_786, by decide +kernel, by decide +kernel, by decide +kernel⟩
theorem mvX9_undo : xWv yX9_undo := ⟨w_784, w_785⟩
theorem mwX9_append : xW yX9_append cX9_append 2 (some .int) 1 := ⟨w_10, w_790, by decide +kernel, by decide +kernel, by decide +kernel⟩
theorem mvX9_append : xWv yX9_append := ⟨w_788, w_789⟩
theorem mwX9_clearText : xW yX9_clearText cX9_clearText 2 (some .int) 0 := ⟨w_10, w_794, by decide +kernel, by decide +kernel, by decide +kernel⟩
theorem mvX9_clearText : xWv yX9_clearText := ⟨w_792, w_793⟩
theorem mwX9_sign : xW yX9_sign cX9_sign 1 (some .int) 0 := ⟨w_10, w_810, by decide +kernel, by decide +kernel, by decide +kernel⟩
theorem mvX9_sign : xWv yX9_sign := ⟨w_809, ws_75⟩
theorem mwX9_readsPart : xW yX9_readsPart cX9_readsPart 2 (some .boolean) 0 := ⟨w_10, w_806, by decide +kernel, by decide +kernel, by decide +kernel⟩
theorem mvX9_readsPart : xWv yX9_readsPart := ⟨w_805, ws_74⟩
theorem mwX9_chains : xW yX9_chains cX9_chains 3 (some .int) 0 := ⟨w_10, w_802, by decide +kernel, by decide +kernel, by decide +kernel⟩
theorem mvX9_chains : xWv yX9_chains := ⟨w_801, ws_73⟩
theorem mwX9_read : xW yX9_read cX9_read 4 (some .int) 1 := ⟨w_10, w_798, by decide +kernel, by decide +kernel, by decide +kernel⟩
theorem mvX9_read : xWv yX9_read := ⟨w_796, w_797⟩
theorem mwX9_contracts : xW yX9_contracts cX9_contracts 3 (some .int) 0 := ⟨w_10, w_818, by decide +kernel, by decide +kernel, by decide +kernel⟩
theorem mvX9_contracts : xWv yX9_contracts := ⟨w_817, ws_76⟩
theorem mwX9_count : xW yX9_count cX9_count 2 (some .int) 1 := ⟨w_10, w_814, by decide +kernel, by decide +kernel, by decide +kernel⟩
theorem mvX9_count : xWv yX9_count := ⟨w_812, w_813⟩
theorem mwX9_longest : xW yX9_longest cX9_longest 6 (some .int) 1 := ⟨w_10, w_826, by decide +kernel, by decide +kernel, by decide +kernel⟩
theorem mvX9_longest : xWv yX9_longest := ⟨w_825, ws_77⟩
theorem mwX9_field : xW yX9_field cX9_field 5 (some .int) 2 := ⟨w_10, w_822, by decide +kernel, by decide +kernel, by decide +kernel⟩
theorem mvX9_field : xWv yX9_field := ⟨w_820, w_821⟩
theorem mwX9_chain : xW yX9_chain cX9_chain 4 (some .int) 3 := ⟨w_10, w_830, by decide +kernel, by decide +kernel, by decide +kernel⟩
theorem mvX9_chain : xWv yX9_chain := ⟨w_828, w_829⟩
theorem mwX9_takes : xW yX9_takes cX9_takes 4 (some .int) 2 := ⟨w_10, w_838, by decide +kernel, by decide +kernel, by decide +kernel⟩
theorem mvX9_takes : xWv yX9_takes := ⟨w_837, ws_78⟩
theorem mwX9_workOf : xW yX9_workOf cX9_workOf 4 (some .int) 1 := ⟨w_10, w_842, by decide +kernel, by decide +kernel, by decide +kernel⟩
theorem mvX9_workOf : xWv yX9_workOf := ⟨w_841, ws_79⟩
theorem mwX9_toLay : xW yX9_toLay cX9_toLay 5 (some .int) 2 := ⟨w_10, w_834, by decide +kernel, by decide +kernel, by decide +kernel⟩
theorem mvX9_toLay : xWv yX9_toLay := ⟨w_832, w_833⟩
theorem mwX9_stakesIn : xW yX9_stakesIn cX9_stakesIn 5 (some .int) 1 := ⟨w_10, w_846, by decide +kernel, by decide +kernel, by decide +kernel⟩
theorem mvX9_stakesIn : xWv yX9_stakesIn := ⟨w_844, w_845⟩
theorem mwX9_doneIn : xW yX9_doneIn cX9_doneIn 6 (some .int) 1 := ⟨w_10, w_850, by decide +kernel, by decide +kernel, by decide +kernel⟩
theorem mvX9_doneIn : xWv yX9_doneIn := ⟨w_848, w_849⟩
theorem mwX9_weeksOf : xW yX9_weeksOf cX9_weeksOf 2 (some .int) 1 := ⟨w_10, w_862, by decide +kernel, by decide +kernel, by decide +kernel⟩
theorem mvX9_weeksOf : xWv yX9_weeksOf := ⟨w_861, ws_81⟩
theorem mwX9_costs : xW yX9_costs cX9_costs 5 (some .int) 2 := ⟨w_10, w_858, by decide +kernel, by decide +kernel, by decide +kernel⟩
theorem mvX9_costs : xWv yX9_costs := ⟨w_857, ws_80⟩
theorem mwX9_bestOrder : xW yX9_bestOrder cX9_bestOrder 7 (some .int) 1 := ⟨w_10, w_854, by decide +kernel, by decide +kernel, by decide +kernel⟩
theorem mvX9_bestOrder : xWv yX9_bestOrder := ⟨w_852, w_853⟩
theorem xvi {i : Int32} {n : Nat} (h : ¬ (i < 0 ∨ n ≤ i.toNatClampNeg)) : vp_in i n := h
def FU : Nat := 10000
def lt {α β : Type} (a : α) (f : α → Option β) : Option β := f a
theorem lt_go {α β : Type} {a : α} {f : α → Option β} {r : β} (h : lt a f = some r) : f a = some r := h
def bd {β : Type} (a : Option (Int32 × Mem)) (f : Int32 → Mem → Option β) : Option β := match a with
  | none => none
  | some x => f x.1 x.2
theorem bd_some {β : Type} {a : Option (Int32 × Mem)} {f : Int32 → Mem → Option β} {r : β} (h : bd a f = some r) : ∃ (x : Int32) (G : Mem), a = some (x, G) ∧ f x G = some r := by
  cases a with
  | none => cases h
  | some x => exact ⟨x.1, x.2, rfl, h⟩
def bv {β : Type} (a : Option Mem) (f : Mem → Option β) : Option β := match a with
  | none => none
  | some x => f x
theorem bv_some {β : Type} {a : Option Mem} {f : Mem → Option β} {r : β} (h : bv a f = some r) : ∃ G : Mem, a = some G ∧ f G = some r := by
  cases a with
  | none => cases h
  | some x => exact ⟨x, rfl, h⟩
end
section
def fX1_has (q0 : Nat) (x1 : Int32) (G : Mem) : Option (Int32 × Mem) := (if x1 < 0 then some (0, G) else (if (G q0 3) ≤ x1 then some (0, G) else some (1, G)))
def fX1_changeChain (q0 : Nat) (x1 : Int32) (x2 : Int32) (x3 : Int32) (G : Mem) : Option (Mem) := bd (fX1_has q0 x1 G) (fun r2 G2 => (if r2 = 0 then some G2 else ix x1 30 (lt (mset G2 (q0 + 1) x1.toNatClampNeg x2) (fun G14 => ix x1 30 (lt (mset G14 (q0 + 2) x1.toNatClampNeg x3) (fun G21 => ix x1 30 (lt (mset G21 (q0 + 3) x1.toNatClampNeg 0) (fun G28 => some G28))))))))
def bX1_addChains_3 (q0 : Nat) (x1 : Int32) (x2 : Int32) (x3 : Int32) (rec3 : (Int32 × Mem) → Option (Mem)) (x4 : Int32) (G : Mem) : Option (Mem) := (if x3 ≤ x4 then some G else (if 30 ≤ (G q0 3) then some G else lt (mset G q0 3 ((G q0 3) + 1)) (fun G25 => bv (fX1_changeChain q0 ((G25 q0 3) - 1) x1 x2 G25) (fun G37 => rec3 ((x4 + 1), G37)))))
def FX1_addChains_3 (q0 : Nat) (x1 : Int32) (x2 : Int32) (x3 : Int32) : ((Int32 × Mem) → Option (Mem)) → (Int32 × Mem) → Option (Mem) := fun rec x => bX1_addChains_3 q0 x1 x2 x3 rec x.1 x.2
def fX1_addChains (q0 : Nat) (x1 : Int32) (x2 : Int32) (x3 : Int32) (G : Mem) : Option (Mem) := itr FU (FX1_addChains_3 q0 x1 x2 x3) (0, G)
def fX1_isToLay (q0 : Nat) (x1 : Int32) (G : Mem) : Option (Int32 × Mem) := bd (fX1_has q0 x1 G) (fun r2 G2 => (if r2 = 0 then some (0, G2) else ix x1 30 ((if (G2 (q0 + 1) x1.toNatClampNeg) = 0 then ix x1 30 ((if (G2 (q0 + 2) x1.toNatClampNeg) < 2 then some (0, G2) else some (1, G2))) else some (0, G2)))))
def fX1_thicknessOf (q0 : Nat) (x1 : Int32) (G : Mem) : Option (Int32 × Mem) := bd (fX1_has q0 x1 G) (fun r2 G2 => (if r2 = 0 then some (0, G2) else ix x1 30 (some ((G2 (q0 + 2) x1.toNatClampNeg), G2))))
def fX1_copyFrom (q0 : Nat) (q1 : Nat) (G : Mem) : Option (Mem) := lt (mrow G (q0 + 1) (va_cpy (G (q1 + 1)) (G (q0 + 1)) 0 0 30)) (fun G12 => lt (mrow G12 (q0 + 2) (va_cpy (G12 (q1 + 2)) (G12 (q0 + 2)) 0 0 30)) (fun G27 => lt (mrow G27 (q0 + 3) (va_cpy (G27 (q1 + 3)) (G27 (q0 + 3)) 0 0 30)) (fun G42 => lt (mset G42 q0 3 (G42 q1 3)) (fun G50 => some G50))))
def fX0_copyFrom (q0 : Nat) (q1 : Nat) (G : Mem) : Option (Mem) := zk (G q1 0) (lt (mset G q0 0 (G q1 0)) (fun G5 => lt (mset G5 q0 1 (G5 q1 1)) (fun G13 => lt (mset G13 q0 2 (G13 q1 2)) (fun G21 => lt (mset G21 q0 3 (G21 q1 3)) (fun G29 => some G29)))))
def fX1_kindOf (q0 : Nat) (x1 : Int32) (G : Mem) : Option (Int32 × Mem) := bd (fX1_has q0 x1 G) (fun r2 G2 => (if r2 = 0 then some ((-1), G2) else ix x1 30 (some ((G2 (q0 + 1) x1.toNatClampNeg), G2))))
def bX1_numberOf_4 (q0 : Nat) (x1 : Int32) (rec4 : (Int32 × Int32 × Mem) → Option (Int32 × Mem)) (x2 : Int32) (x3 : Int32) (G : Mem) : Option (Int32 × Mem) := (if (G q0 3) ≤ x3 then some (x2, G) else bd (fX1_kindOf q0 x3 G) (fun r14 G14 => (if r14 = x1 then rec4 ((x2 + 1), (x3 + 1), G14) else rec4 (x2, (x3 + 1), G14))))
def FX1_numberOf_4 (q0 : Nat) (x1 : Int32) : ((Int32 × Int32 × Mem) → Option (Int32 × Mem)) → (Int32 × Int32 × Mem) → Option (Int32 × Mem) := fun rec x => bX1_numberOf_4 q0 x1 rec x.1 x.2.1 x.2.2
def fX1_numberOf (q0 : Nat) (x1 : Int32) (G : Mem) : Option (Int32 × Mem) := itr FU (FX1_numberOf_4 q0 x1) (0, 0, G)
def fX1_isToCut (q0 : Nat) (x1 : Int32) (G : Mem) : Option (Int32 × Mem) := bd (fX1_has q0 x1 G) (fun r2 G2 => (if r2 = 0 then some (0, G2) else ix x1 30 ((if (G2 (q0 + 1) x1.toNatClampNeg) = 0 then ix x1 30 ((if (G2 (q0 + 2) x1.toNatClampNeg) < 3 then some (0, G2) else some (1, G2))) else some (0, G2)))))
def fX1_ageOf (q0 : Nat) (x1 : Int32) (G : Mem) : Option (Int32 × Mem) := bd (fX1_has q0 x1 G) (fun r2 G2 => (if r2 = 0 then some (0, G2) else ix x1 30 (some ((G2 (q0 + 3) x1.toNatClampNeg), G2))))
def fX1_growOlder (q0 : Nat) (x1 : Int32) (G : Mem) : Option (Mem) := bd (fX1_ageOf q0 x1 G) (fun r2 G2 => (if (r2 + 1) < 6 then bd (fX1_has q0 x1 G2) (fun r24 G24 => (if r24 = 0 then some G24 else ix x1 30 (ix x1 30 (lt (mset G24 (q0 + 3) x1.toNatClampNeg ((G24 (q0 + 3) x1.toNatClampNeg) + 1)) (fun G39 => some G39))))) else bv (fX1_changeChain q0 x1 0 1 G2) (fun G16 => some G16)))
def fX1_growLaid (q0 : Nat) (x1 : Int32) (G : Mem) : Option (Mem) := bd (fX1_thicknessOf q0 x1 G) (fun r2 G2 => (if (r2 + 2) ≤ 9 then bv (fX1_changeChain q0 x1 1 (r2 + 2) G2) (fun G29 => some G29) else bv (fX1_changeChain q0 x1 0 9 G2) (fun G19 => some G19)))
def jX1_grow_60 (rec2 : (Int32 × Mem) → Option (Mem)) (q0 : Nat) (x1 : Int32) (x2 : Int32) (x3 : Int32) (G : Mem) : Option (Mem) := (if x3 = 1 then (if (x1 - x1 / 52 * 52) = 0 then bv (fX1_growLaid q0 x2 G) (fun G74 => rec2 ((x2 + 1), G74)) else rec2 ((x2 + 1), G)) else rec2 ((x2 + 1), G))
def bX1_grow_2 (q0 : Nat) (x1 : Int32) (rec2 : (Int32 × Mem) → Option (Mem)) (x2 : Int32) (G : Mem) : Option (Mem) := (if (G q0 3) ≤ x2 then some G else bd (fX1_kindOf q0 x2 G) (fun r12 G12 => (if r12 = 3 then bv (fX1_growOlder q0 x2 G12) (fun G23 => rec2 ((x2 + 1), G23)) else (if r12 = 0 then (if (x1 - x1 / 4 * 4) = 0 then bd (fX1_thicknessOf q0 x2 G12) (fun r44 G44 => bv (fX1_changeChain q0 x2 0 (if 9 < (r44 + 1) then 9 else (r44 + 1)) G44) (fun G54 => rec2 ((x2 + 1), G54))) else jX1_grow_60 rec2 q0 x1 x2 r12 G12) else jX1_grow_60 rec2 q0 x1 x2 r12 G12))))
def FX1_grow_2 (q0 : Nat) (x1 : Int32) : ((Int32 × Mem) → Option (Mem)) → (Int32 × Mem) → Option (Mem) := fun rec x => bX1_grow_2 q0 x1 rec x.1 x.2
def fX1_grow (q0 : Nat) (x1 : Int32) (G : Mem) : Option (Mem) := itr FU (FX1_grow_2 q0 x1) (0, G)
def fX0_make (q0 : Nat) (x1 : Int32) (x2 : Int32) (x3 : Int32) (G : Mem) : Option (Mem) := lt (mset G q0 0 1) (fun G2 => lt (mset G2 q0 1 x1) (fun G7 => lt (mset G7 q0 2 x2) (fun G12 => lt (mset G12 q0 3 x3) (fun G17 => some G17))))
def bX1_runFrom_2 (q0 : Nat) (x1 : Int32) (rec2 : (Int32 × Mem) → Option (Int32 × Mem)) (x2 : Int32) (G : Mem) : Option (Int32 × Mem) := (if (G q0 3) ≤ x2 then some (x2, G) else bd (fX1_kindOf q0 (x1 + x2) G) (fun r14 G14 => (if r14 = 1 then rec2 ((x2 + 1), G14) else some (x2, G14))))
def FX1_runFrom_2 (q0 : Nat) (x1 : Int32) : ((Int32 × Mem) → Option (Int32 × Mem)) → (Int32 × Mem) → Option (Int32 × Mem) := fun rec x => bX1_runFrom_2 q0 x1 rec x.1 x.2
def fX1_runFrom (q0 : Nat) (x1 : Int32) (G : Mem) : Option (Int32 × Mem) := itr FU (FX1_runFrom_2 q0 x1) (0, G)
def bX1_longestRunBegin_7 (q0 : Nat) (rec7 : (Int32 × Int32 × Int32 × Mem) → Option (Int32 × Mem)) (x1 : Int32) (x2 : Int32) (x3 : Int32) (G : Mem) : Option (Int32 × Mem) := (if (G q0 3) ≤ x3 then some (x1, G) else bd (fX1_runFrom q0 x3 G) (fun r17 G17 => (if r17 ≤ x2 then rec7 (x1, x2, (x3 + 1), G17) else rec7 (x3, r17, (x3 + 1), G17))))
def FX1_longestRunBegin_7 (q0 : Nat) : ((Int32 × Int32 × Int32 × Mem) → Option (Int32 × Mem)) → (Int32 × Int32 × Int32 × Mem) → Option (Int32 × Mem) := fun rec x => bX1_longestRunBegin_7 q0 rec x.1 x.2.1 x.2.2.1 x.2.2.2
def fX1_longestRunBegin (q0 : Nat) (G : Mem) : Option (Int32 × Mem) := itr FU (FX1_longestRunBegin_7 q0) ((-9), 0, 0, G)
def bX1_workToLay_4 (q0 : Nat) (rec4 : (Int32 × Int32 × Mem) → Option (Int32 × Mem)) (x1 : Int32) (x2 : Int32) (G : Mem) : Option (Int32 × Mem) := (if (G q0 3) ≤ x2 then some (x1, G) else bd (fX1_isToLay q0 x2 G) (fun r14 G14 => (if r14 = 0 then rec4 (x1, (x2 + 1), G14) else bd (fX1_thicknessOf q0 x2 G14) (fun r23 G23 => rec4 ((x1 + r23), (x2 + 1), G23)))))
def FX1_workToLay_4 (q0 : Nat) : ((Int32 × Int32 × Mem) → Option (Int32 × Mem)) → (Int32 × Int32 × Mem) → Option (Int32 × Mem) := fun rec x => bX1_workToLay_4 q0 rec x.1 x.2.1 x.2.2
def fX1_workToLay (q0 : Nat) (G : Mem) : Option (Int32 × Mem) := itr FU (FX1_workToLay_4 q0) (0, 0, G)
def bX1_stakesToLay_4 (q0 : Nat) (rec4 : (Int32 × Int32 × Mem) → Option (Int32 × Mem)) (x1 : Int32) (x2 : Int32) (G : Mem) : Option (Int32 × Mem) := (if (G q0 3) ≤ x2 then some (x1, G) else bd (fX1_isToLay q0 x2 G) (fun r14 G14 => (if r14 = 0 then rec4 (x1, (x2 + 1), G14) else rec4 ((x1 + 2), (x2 + 1), G14))))
def FX1_stakesToLay_4 (q0 : Nat) : ((Int32 × Int32 × Mem) → Option (Int32 × Mem)) → (Int32 × Int32 × Mem) → Option (Int32 × Mem) := fun rec x => bX1_stakesToLay_4 q0 rec x.1 x.2.1 x.2.2
def fX1_stakesToLay (q0 : Nat) (G : Mem) : Option (Int32 × Mem) := itr FU (FX1_stakesToLay_4 q0) (0, 0, G)
def bX1_stakesOf_4 (rec4 : (Int32 × Int32 × Mem) → Option (Int32 × Mem)) (x1 : Int32) (x2 : Int32) (G : Mem) : Option (Int32 × Mem) := (if x2 < 3 then some (x1, G) else rec4 ((x1 + x2), (x2 + Int32.ofInt (-2)), G))
def FX1_stakesOf_4 : ((Int32 × Int32 × Mem) → Option (Int32 × Mem)) → (Int32 × Int32 × Mem) → Option (Int32 × Mem) := fun rec x => bX1_stakesOf_4 rec x.1 x.2.1 x.2.2
def fX1_stakesOf (x0 : Int32) (G : Mem) : Option (Int32 × Mem) := itr FU (FX1_stakesOf_4) (0, x0, G)
def bX1_stakesToCut_4 (q0 : Nat) (rec4 : (Int32 × Int32 × Mem) → Option (Int32 × Mem)) (x1 : Int32) (x2 : Int32) (G : Mem) : Option (Int32 × Mem) := (if (G q0 3) ≤ x2 then some (x1, G) else bd (fX1_kindOf q0 x2 G) (fun r14 G14 => (if r14 = 0 then bd (fX1_thicknessOf q0 x2 G14) (fun r23 G23 => bd (fX1_stakesOf r23 G23) (fun r26 G26 => rec4 ((x1 + r26), (x2 + 1), G26))) else rec4 (x1, (x2 + 1), G14))))
def FX1_stakesToCut_4 (q0 : Nat) : ((Int32 × Int32 × Mem) → Option (Int32 × Mem)) → (Int32 × Int32 × Mem) → Option (Int32 × Mem) := fun rec x => bX1_stakesToCut_4 q0 rec x.1 x.2.1 x.2.2
def fX1_stakesToCut (q0 : Nat) (G : Mem) : Option (Int32 × Mem) := itr FU (FX1_stakesToCut_4 q0) (0, 0, G)
def fX4_isClosed (q0 : Nat) (x1 : Int32) (G : Mem) : Option (Int32 × Mem) := (if (G q0 3) ≤ (G q0 4) then (if (x1 - x1 / 52 * 52) < (G q0 3) then some (0, G) else (if (G q0 4) < (x1 - x1 / 52 * 52) then some (0, G) else some (1, G))) else (if (G q0 3) ≤ (x1 - x1 / 52 * 52) then some (1, G) else (if (G q0 4) < (x1 - x1 / 52 * 52) then some (0, G) else some (1, G))))
def fX4_canLay (q0 : Nat) (x1 : Int32) (x2 : Int32) (G : Mem) : Option (Int32 × Mem) := ix x1 6 (bd (fX1_isToLay (q0 + 3 + 5 * x1.toNatClampNeg) x2 G) (fun r9 G9 => (if r9 = 0 then some (0, G9) else bd (fX1_thicknessOf (q0 + 3 + 5 * x1.toNatClampNeg) x2 G9) (fun r21 G21 => (if (G9 q0 6) < r21 then some (0, G21) else (if (G21 q0 7) < 2 then some (0, G21) else some (1, G21)))))))
def bX4_copyFrom_2 (q0 : Nat) (q1 : Nat) (rec2 : (Int32 × Mem) → Option (Mem)) (x2 : Int32) (G : Mem) : Option (Mem) := (if 6 ≤ x2 then lt (mset G q0 2 (G q1 2)) (fun G49 => lt (mset G49 q0 3 (G49 q1 3)) (fun G57 => lt (mset G57 q0 4 (G57 q1 4)) (fun G65 => lt (mset G65 q0 5 (G65 q1 5)) (fun G73 => lt (mset G73 q0 6 (G73 q1 6)) (fun G81 => lt (mset G81 q0 7 (G81 q1 7)) (fun G89 => lt (mset G89 q0 8 (G89 q1 8)) (fun G97 => lt (mset G97 q0 9 (G97 q1 9)) (fun G105 => lt (mset G105 q0 10 (G105 q1 10)) (fun G113 => lt (mset G113 q0 11 (G113 q1 11)) (fun G121 => lt (mset G121 q0 12 (G121 q1 12)) (fun G129 => lt (mset G129 q0 13 (G129 q1 13)) (fun G137 => some G137)))))))))))) else ix x2 6 (ix x2 6 (bv (fX1_copyFrom (q0 + 3 + 5 * x2.toNatClampNeg) (q1 + 3 + 5 * x2.toNatClampNeg) G) (fun G20 => ix x2 6 (ix x2 6 (bv (fX0_copyFrom (q0 + 7 + 5 * x2.toNatClampNeg) (q1 + 7 + 5 * x2.toNatClampNeg) G20) (fun G35 => rec2 ((x2 + 1), G35))))))))
def FX4_copyFrom_2 (q0 : Nat) (q1 : Nat) : ((Int32 × Mem) → Option (Mem)) → (Int32 × Mem) → Option (Mem) := fun rec x => bX4_copyFrom_2 q0 q1 rec x.1 x.2
def fX4_copyFrom (q0 : Nat) (q1 : Nat) (G : Mem) : Option (Mem) := itr FU (FX4_copyFrom_2 q0 q1) (0, G)
def fX4_endContractIfNoneStands (q0 : Nat) (x1 : Int32) (G : Mem) : Option (Mem) := ix x1 6 (bd (fX1_numberOf (q0 + 3 + 5 * x1.toNatClampNeg) 0 G) (fun r7 G7 => (if r7 = 0 then ix x1 6 (lt (mset G7 (q0 + 7 + 5 * x1.toNatClampNeg) 0 0) (fun G20 => some G20)) else some G7)))
def fX4_layChain (q0 : Nat) (x1 : Int32) (x2 : Int32) (G : Mem) : Option (Mem) := ix x1 6 (bd (fX1_thicknessOf (q0 + 3 + 5 * x1.toNatClampNeg) x2 G) (fun r9 G9 => lt (mset G9 q0 6 ((G9 q0 6) - r9)) (fun G22 => lt (mset G22 q0 7 ((G22 q0 7) - 2)) (fun G32 => bv (fX1_changeChain (q0 + 3 + 5 * x1.toNatClampNeg) x2 1 r9 G32) (fun G40 => lt (mset G40 q0 12 ((G40 q0 12) + 1)) (fun G50 => ix x1 6 ((if (G50 (q0 + 7 + 5 * x1.toNatClampNeg) 0) = 0 then bv (fX4_endContractIfNoneStands q0 x1 G50) (fun G103 => some G103) else ix x1 6 (lt (mset G50 q0 8 ((G50 q0 8) + (G50 (q0 + 7 + 5 * x1.toNatClampNeg) 1))) (fun G80 => ix x1 6 (lt (mset G80 q0 10 ((G80 q0 10) + (G80 (q0 + 7 + 5 * x1.toNatClampNeg) 1))) (fun G98 => bv (fX4_endContractIfNoneStands q0 x1 G98) (fun G103 => some G103)))))))))))))
def fX4_canCut (q0 : Nat) (x1 : Int32) (x2 : Int32) (G : Mem) : Option (Int32 × Mem) := ix x1 6 (bd (fX1_isToCut (q0 + 3 + 5 * x1.toNatClampNeg) x2 G) (fun r7 G7 => (if r7 = 0 then some (0, G7) else (if (G7 q0 6) < 1 then some (0, G7) else some (1, G7)))))
def fX4_cutChain (q0 : Nat) (x1 : Int32) (x2 : Int32) (G : Mem) : Option (Mem) := ix x1 6 (bd (fX1_thicknessOf (q0 + 3 + 5 * x1.toNatClampNeg) x2 G) (fun r7 G7 => lt (mset G7 q0 6 ((G7 q0 6) - 1)) (fun G18 => lt (mset G18 q0 7 ((G18 q0 7) + r7)) (fun G28 => ix x1 6 (bv (fX1_changeChain (q0 + 3 + 5 * x1.toNatClampNeg) x2 0 (r7 - 2) G28) (fun G42 => some G42))))))
def fX4_canPlant (q0 : Nat) (x1 : Int32) (x2 : Int32) (G : Mem) : Option (Int32 × Mem) := ix x1 6 (bd (fX1_kindOf (q0 + 3 + 5 * x1.toNatClampNeg) x2 G) (fun r7 G7 => (if r7 = 2 then (if (G7 q0 6) < 2 then some (0, G7) else (if (G7 q0 8) < 3 then some (0, G7) else some (1, G7))) else some (0, G7))))
def fX4_plantChain (q0 : Nat) (x1 : Int32) (x2 : Int32) (G : Mem) : Option (Mem) := lt (mset G q0 6 ((G q0 6) - 2)) (fun G7 => lt (mset G7 q0 8 ((G7 q0 8) - 3)) (fun G17 => ix x1 6 (bv (fX1_changeChain (q0 + 3 + 5 * x1.toNatClampNeg) x2 3 0 G17) (fun G29 => lt (mset G29 q0 13 ((G29 q0 13) + 1)) (fun G39 => some G39)))))
def fX4_grubChain (q0 : Nat) (x1 : Int32) (x2 : Int32) (G : Mem) : Option (Mem) := ix x1 6 (bv (fX1_changeChain (q0 + 3 + 5 * x1.toNatClampNeg) x2 2 0 G) (fun G9 => bv (fX4_endContractIfNoneStands q0 x1 G9) (fun G14 => some G14)))
def fX4_finePerWeek (q0 : Nat) (x1 : Int32) (G : Mem) : Option (Int32 × Mem) := ix x1 6 (ix x1 6 (bd (fX1_numberOf (q0 + 3 + 5 * x1.toNatClampNeg) 0 G) (fun r16 G16 => some (((G (q0 + 7 + 5 * x1.toNatClampNeg) 3) * r16), G16))))
def bX4_finesDue_4 (q0 : Nat) (rec4 : (Int32 × Int32 × Mem) → Option (Int32 × Mem)) (x1 : Int32) (x2 : Int32) (G : Mem) : Option (Int32 × Mem) := (if 6 ≤ x2 then some (x1, G) else ix x2 6 ((if (G (q0 + 7 + 5 * x2.toNatClampNeg) 0) = 0 then rec4 (x1, (x2 + 1), G) else ix x2 6 ((if (G q0 2) ≤ (G (q0 + 7 + 5 * x2.toNatClampNeg) 2) then rec4 (x1, (x2 + 1), G) else bd (fX4_finePerWeek q0 x2 G) (fun r41 G41 => rec4 ((x1 + r41), (x2 + 1), G41)))))))
def FX4_finesDue_4 (q0 : Nat) : ((Int32 × Int32 × Mem) → Option (Int32 × Mem)) → (Int32 × Int32 × Mem) → Option (Int32 × Mem) := fun rec x => bX4_finesDue_4 q0 rec x.1 x.2.1 x.2.2
def fX4_finesDue (q0 : Nat) (G : Mem) : Option (Int32 × Mem) := itr FU (FX4_finesDue_4 q0) (0, 0, G)
def fX4_spend (q0 : Nat) (x1 : Int32) (G : Mem) : Option (Mem) := lt (mset G q0 8 ((G q0 8) - (if x1 < (G q0 8) then x1 else (G q0 8)))) (fun G16 => lt (mset G16 q0 9 ((G16 q0 9) + (x1 - (if x1 < (G q0 8) then x1 else (G q0 8))))) (fun G28 => some G28))
def bX4_passWeek_20 (q0 : Nat) (rec20 : (Int32 × Mem) → Option (Int32 × Mem)) (x1 : Int32) (G : Mem) : Option (Int32 × Mem) := (if 6 ≤ x1 then bd (fX4_finesDue q0 G) (fun r46 G46 => lt (mset G46 q0 11 ((G46 q0 11) + r46)) (fun G57 => bv (fX4_spend q0 r46 G57) (fun G62 => some (r46, G62)))) else ix x1 6 (bv (fX1_grow (q0 + 3 + 5 * x1.toNatClampNeg) (G q0 2) G) (fun G36 => rec20 ((x1 + 1), G36))))
def FX4_passWeek_20 (q0 : Nat) : ((Int32 × Mem) → Option (Int32 × Mem)) → (Int32 × Mem) → Option (Int32 × Mem) := fun rec x => bX4_passWeek_20 q0 rec x.1 x.2
def fX4_passWeek (q0 : Nat) (G : Mem) : Option (Int32 × Mem) := lt (mset G q0 2 ((G q0 2) + 1)) (fun G7 => lt (mset G7 q0 6 (G7 q0 5)) (fun G15 => itr FU (FX4_passWeek_20 q0) (0, G15)))
def fX4_settingOf (q0 : Nat) (x1 : Int32) (G : Mem) : Option (Int32 × Mem) := (if x1 = 0 then some ((G q0 3), G) else (if x1 = 1 then some ((G q0 4), G) else some ((G q0 5), G)))
def fX4_changeSetting (q0 : Nat) (x1 : Int32) (x2 : Int32) (G : Mem) : Option (Mem) := (if x1 = 0 then lt (mset G q0 3 x2) (fun G30 => some G30) else (if x1 = 1 then lt (mset G q0 4 x2) (fun G38 => some G38) else lt (mset G q0 6 (if (((G q0 6) + x2) - (G q0 5)) < 0 then 0 else (((G q0 6) + x2) - (G q0 5)))) (fun G60 => lt (mset G60 q0 5 x2) (fun G65 => some G65))))
def fX4_replaceHedge (q0 : Nat) (x1 : Int32) (q2 : Nat) (G : Mem) : Option (Mem) := ix x1 6 (bv (fX1_copyFrom (q0 + 3 + 5 * x1.toNatClampNeg) q2 G) (fun G7 => bv (fX4_endContractIfNoneStands q0 x1 G7) (fun G12 => some G12)))
def bX4_numberOfContracts_4 (q0 : Nat) (rec4 : (Int32 × Int32 × Mem) → Option (Int32 × Mem)) (x1 : Int32) (x2 : Int32) (G : Mem) : Option (Int32 × Mem) := (if 6 ≤ x2 then some (x1, G) else ix x2 6 ((if (G (q0 + 7 + 5 * x2.toNatClampNeg) 0) = 0 then rec4 (x1, (x2 + 1), G) else rec4 ((x1 + 1), (x2 + 1), G))))
def FX4_numberOfContracts_4 (q0 : Nat) : ((Int32 × Int32 × Mem) → Option (Int32 × Mem)) → (Int32 × Int32 × Mem) → Option (Int32 × Mem) := fun rec x => bX4_numberOfContracts_4 q0 rec x.1 x.2.1 x.2.2
def fX4_numberOfContracts (q0 : Nat) (G : Mem) : Option (Int32 × Mem) := itr FU (FX4_numberOfContracts_4 q0) (0, 0, G)
def fX4_workAfter (q0 : Nat) (x1 : Int32) (G : Mem) : Option (Int32 × Mem) := bd (fX4_isClosed q0 ((G q0 2) + x1) G) (fun r7 G7 => (if r7 = 0 then (if x1 = 0 then some ((G7 q0 6), G7) else some ((G7 q0 5), G7)) else some (0, G7)))
def jX4_weeksUntilLaid_76 (rec19 : (Int32 × Int32 × Int32 × Mem) → Option (Int32 × Mem)) (q0 : Nat) (q2 : Nat) (x3 : Int32) (x4 : Int32) (x5 : Int32) (x6 : Int32) (G : Mem) : Option (Int32 × Mem) := (if x6 ≤ x4 then rec19 (x3, (x4 - x6), (x5 + 1), G) else some ((-9), G))
def bX4_weeksUntilLaid_49 (rec19 : (Int32 × Int32 × Int32 × Mem) → Option (Int32 × Mem)) (q0 : Nat) (q2 : Nat) (x5 : Int32) (x6 : Int32) (rec49 : (Int32 × Int32 × Mem) → Option (Int32 × Mem)) (x3 : Int32) (x4 : Int32) (G : Mem) : Option (Int32 × Mem) := (if x6 ≤ x4 then jX4_weeksUntilLaid_76 rec19 q0 q2 x3 x4 x5 x6 G else (if 200 ≤ x3 then jX4_weeksUntilLaid_76 rec19 q0 q2 x3 x4 x5 x6 G else bd (fX4_workAfter q0 (x3 + 1) G) (fun r68 G68 => rec49 ((x3 + 1), r68, G68))))
def FX4_weeksUntilLaid_49 (rec19 : (Int32 × Int32 × Int32 × Mem) → Option (Int32 × Mem)) (q0 : Nat) (q2 : Nat) (x5 : Int32) (x6 : Int32) : ((Int32 × Int32 × Mem) → Option (Int32 × Mem)) → (Int32 × Int32 × Mem) → Option (Int32 × Mem) := fun rec x => bX4_weeksUntilLaid_49 rec19 q0 q2 x5 x6 rec x.1 x.2.1 x.2.2
def bX4_weeksUntilLaid_19 (q0 : Nat) (q2 : Nat) (rec19 : (Int32 × Int32 × Int32 × Mem) → Option (Int32 × Mem)) (x3 : Int32) (x4 : Int32) (x5 : Int32) (G : Mem) : Option (Int32 × Mem) := (if (G q2 3) ≤ x5 then some (x3, G) else bd (fX1_isToLay q2 x5 G) (fun r31 G31 => (if r31 = 0 then itr FU (FX4_weeksUntilLaid_49 rec19 q0 q2 x5 0) (x3, x4, G31) else bd (fX1_thicknessOf q2 x5 G31) (fun r40 G40 => itr FU (FX4_weeksUntilLaid_49 rec19 q0 q2 x5 r40) (x3, x4, G40)))))
def FX4_weeksUntilLaid_19 (q0 : Nat) (q2 : Nat) : ((Int32 × Int32 × Int32 × Mem) → Option (Int32 × Mem)) → (Int32 × Int32 × Int32 × Mem) → Option (Int32 × Mem) := fun rec x => bX4_weeksUntilLaid_19 q0 q2 rec x.1 x.2.1 x.2.2.1 x.2.2.2
def fX4_weeksUntilLaid (q0 : Nat) (x1 : Int32) (G : Mem) : Option (Int32 × Mem) := ix x1 6 (bd (fX4_workAfter q0 0 G) (fun r11 G11 => itr FU (FX4_weeksUntilLaid_19 q0 (q0 + 3 + 5 * x1.toNatClampNeg)) (0, r11, 0, G11)))
def fX4_weeksOfWork (q0 : Nat) (x1 : Int32) (G : Mem) : Option (Int32 × Mem) := ix x1 6 (bd (fX1_workToLay (q0 + 3 + 5 * x1.toNatClampNeg) G) (fun r6 G6 => nz (if (G6 q0 5) < 1 then 1 else (G6 q0 5)) (some ((((r6 + (G6 q0 5)) - 1) / (if (G6 q0 5) < 1 then 1 else (G6 q0 5))), G6))))
def bX6_copyFrom_13 (q0 : Nat) (q1 : Nat) (rec13 : (Int32 × Mem) → Option (Mem)) (x2 : Int32) (G : Mem) : Option (Mem) := (if 2 ≤ x2 then some G else ix x2 2 (ix x2 2 (lt (mset G (q0 + 35) x2.toNatClampNeg (vp_nar .boolean (G (q1 + 35) x2.toNatClampNeg))) (fun G29 => ix x2 2 ((if (G29 (q0 + 35) x2.toNatClampNeg) = 0 then rec13 ((x2 + 1), G29) else ix x2 2 (ix x2 2 (bv (fX4_copyFrom (q0 + 36 + 33 * x2.toNatClampNeg) (q1 + 36 + 33 * x2.toNatClampNeg) G29) (fun G51 => rec13 ((x2 + 1), G51))))))))))
def FX6_copyFrom_13 (q0 : Nat) (q1 : Nat) : ((Int32 × Mem) → Option (Mem)) → (Int32 × Mem) → Option (Mem) := fun rec x => bX6_copyFrom_13 q0 q1 rec x.1 x.2
def fX6_copyFrom (q0 : Nat) (q1 : Nat) (G : Mem) : Option (Mem) := bv (fX4_copyFrom (q0 + 1) (q1 + 1) G) (fun G8 => itr FU (FX6_copyFrom_13 q0 q1) (0, G8))
def fX3_keep (q0 : Nat) (q1 : Nat) (G : Mem) : Option (Mem) := ix (G q0 1) 5 (bv (fX6_copyFrom (q0 + 2 + 102 * (G q0 1).toNatClampNeg) q1 G) (fun G10 => lt (mset G10 q0 1 (((G10 q0 1) + 1) - ((G10 q0 1) + 1) / 5 * 5)) (fun G22 => lt (mset G22 q0 2 (if 5 < ((G22 q0 2) + 1) then 5 else ((G22 q0 2) + 1))) (fun G36 => some G36))))
def fX6_fillSlot (q0 : Nat) (x1 : Int32) (G : Mem) : Option (Mem) := ix x1 2 (bv (fX4_copyFrom (q0 + 36 + 33 * x1.toNatClampNeg) (q0 + 1) G) (fun G10 => ix x1 2 (lt (mset G10 (q0 + 35) x1.toNatClampNeg (vp_nar .boolean 1)) (fun G19 => some G19))))
def fX3_bringBack (q0 : Nat) (q1 : Nat) (G : Mem) : Option (Mem) := (if (G q0 2) ≤ 0 then some G else lt (mset G q0 1 ((((G q0 1) + 5) - 1) - (((G q0 1) + 5) - 1) / 5 * 5)) (fun G18 => lt (mset G18 q0 2 ((G18 q0 2) - 1)) (fun G28 => ix (G28 q0 1) 5 (bv (fX6_copyFrom q1 (q0 + 2 + 102 * (G28 q0 1).toNatClampNeg) G28) (fun G41 => some G41)))))
def fX7_addSign (q0 : Nat) (x1 : Int32) (G : Mem) : Option (Mem) := (if 80 ≤ (G q0 1) then some G else ix (G q0 1) 80 (lt (mset G (q0 + 1) (G q0 1).toNatClampNeg (vp_nar .char x1)) (fun G18 => lt (mset G18 q0 1 ((G18 q0 1) + 1)) (fun G26 => some G26))))
def fX7_signAt (q0 : Nat) (x1 : Int32) (G : Mem) : Option (Int32 × Mem) := (if x1 < 0 then some (0, G) else (if (G q0 1) ≤ x1 then some (0, G) else ix x1 80 (ck (G (q0 + 1) x1.toNatClampNeg) (some ((G (q0 + 1) x1.toNatClampNeg), G)))))
def fX2_kindFor (x0 : Int32) (G : Mem) : Option (Int32 × Mem) := (if x0 = 103 then some (2, G) else (if x0 = 108 then some (1, G) else (if x0 = 112 then some (3, G) else (if x0 = 116 then some (0, G) else some ((-1), G)))))
def fX2_digitFor (x0 : Int32) (G : Mem) : Option (Int32 × Mem) := (if x0 < 48 then some ((-1), G) else (if 57 < x0 then some ((-1), G) else some ((x0 - 48), G)))
def bX2_readNumber_29 (q0 : Nat) (q1 : Nat) (rec29 : (Int32 × Mem) → Option (Int32 × Mem)) (x2 : Int32) (G : Mem) : Option (Int32 × Mem) := (if (G q1 1) ≤ (G q0 2) then some (x2, G) else bd (fX7_signAt q1 (G q0 2) G) (fun r45 G45 => bd (fX2_digitFor r45 G45) (fun r48 G48 => (if r48 < 0 then some (x2, G48) else bd (fX7_signAt q1 (G48 q0 2) G48) (fun r63 G63 => bd (fX2_digitFor r63 G63) (fun r66 G66 => (if ((x2 * 10) + r66) ≤ 30 then lt (mset G66 q0 2 ((G66 q0 2) + 1)) (fun G86 => rec29 (((x2 * 10) + r66), G86)) else some (0, G66))))))))
def FX2_readNumber_29 (q0 : Nat) (q1 : Nat) : ((Int32 × Mem) → Option (Int32 × Mem)) → (Int32 × Mem) → Option (Int32 × Mem) := fun rec x => bX2_readNumber_29 q0 q1 rec x.1 x.2
def fX2_readNumber (q0 : Nat) (q1 : Nat) (G : Mem) : Option (Int32 × Mem) := bd (fX7_signAt q1 (G q0 2) G) (fun r5 G5 => bd (fX2_digitFor r5 G5) (fun r8 G8 => (if 1 ≤ r8 then lt (mset G8 q0 2 ((G8 q0 2) + 1)) (fun G26 => itr FU (FX2_readNumber_29 q0 q1) (r8, G26)) else some (0, G8))))
def jX2_readPart_102 (q0 : Nat) (x2 : Int32) (x3 : Int32) (x4 : Int32) (G : Mem) : Option (Int32 × Mem) := lt (mset G q0 1 ((G q0 1) + x4)) (fun G110 => bv (fX1_addChains (q0 + 1) x2 x3 x4 G110) (fun G121 => (if x4 ≤ 0 then some (0, G121) else some (1, G121))))
def jX2_readPart_69 (q0 : Nat) (q1 : Nat) (x2 : Int32) (x3 : Int32) (G : Mem) : Option (Int32 × Mem) := bd (fX7_signAt q1 (G q0 2) G) (fun r77 G77 => (if r77 = 42 then lt (mset G77 q0 2 ((G77 q0 2) + 1)) (fun G92 => bd (fX2_readNumber q0 q1 G92) (fun r97 G97 => jX2_readPart_102 q0 x2 x3 r97 G97)) else jX2_readPart_102 q0 x2 x3 1 G77))
def jX2_readPart_40 (q0 : Nat) (q1 : Nat) (x2 : Int32) (G : Mem) : Option (Int32 × Mem) := bd (fX7_signAt q1 (G q0 2) G) (fun r45 G45 => bd (fX2_digitFor r45 G45) (fun r48 G48 => (if 1 ≤ r48 then lt (mset G48 q0 2 ((G48 q0 2) + 1)) (fun G66 => jX2_readPart_69 q0 q1 x2 r48 G66) else some (0, G48))))
def fX2_readPart (q0 : Nat) (q1 : Nat) (G : Mem) : Option (Int32 × Mem) := bd (fX7_signAt q1 (G q0 2) G) (fun r5 G5 => bd (fX2_kindFor r5 G5) (fun r8 G8 => (if r8 = (-1) then some (0, G8) else lt (mset G8 q0 2 ((G8 q0 2) + 1)) (fun G26 => (if r8 = 0 then jX2_readPart_40 q0 q1 r8 G26 else (if r8 = 1 then jX2_readPart_40 q0 q1 r8 G26 else jX2_readPart_69 q0 q1 r8 0 G26))))))
def bX2_faultOf_20 (q0 : Nat) (q1 : Nat) (rec20 : (Int32 × Mem) → Option (Int32 × Mem)) (x2 : Int32) (G : Mem) : Option (Int32 × Mem) := (if 80 ≤ x2 then some ((G q0 2), G) else bd (fX2_readPart q0 q1 G) (fun r28 G28 => (if r28 = 0 then some ((G28 q0 2), G28) else (if (G28 q0 2) < (G28 q1 1) then rec20 ((x2 + 1), G28) else some ((-1), G28)))))
def FX2_faultOf_20 (q0 : Nat) (q1 : Nat) : ((Int32 × Mem) → Option (Int32 × Mem)) → (Int32 × Mem) → Option (Int32 × Mem) := fun rec x => bX2_faultOf_20 q0 q1 rec x.1 x.2
def fX2_faultOf (q0 : Nat) (q1 : Nat) (G : Mem) : Option (Int32 × Mem) := lt (mset G (q0 + 1) 3 0) (fun G5 => lt (mset G5 q0 1 0) (fun G10 => lt (mset G10 q0 2 0) (fun G15 => itr FU (FX2_faultOf_20 q0 q1) (0, G15))))
def bX6_numberOfSnapshots_4 (q0 : Nat) (rec4 : (Int32 × Int32 × Mem) → Option (Int32 × Mem)) (x1 : Int32) (x2 : Int32) (G : Mem) : Option (Int32 × Mem) := (if 2 ≤ x2 then some (x1, G) else ix x2 2 ((if (G (q0 + 35) x2.toNatClampNeg) = 0 then rec4 (x1, (x2 + 1), G) else rec4 ((x1 + 1), (x2 + 1), G))))
def FX6_numberOfSnapshots_4 (q0 : Nat) : ((Int32 × Int32 × Mem) → Option (Int32 × Mem)) → (Int32 × Int32 × Mem) → Option (Int32 × Mem) := fun rec x => bX6_numberOfSnapshots_4 q0 rec x.1 x.2.1 x.2.2
def fX6_numberOfSnapshots (q0 : Nat) (G : Mem) : Option (Int32 × Mem) := itr FU (FX6_numberOfSnapshots_4 q0) (0, 0, G)
def jX5_lookAt_45 (rec15 : (Int32 × Mem) → Option (Mem)) (q0 : Nat) (q1 : Nat) (x2 : Int32) (G : Mem) : Option (Mem) := bd (fX4_weeksOfWork q1 x2 G) (fun r52 G52 => ix x2 6 (lt (mset G52 (q0 + 1) x2.toNatClampNeg r52) (fun G55 => ix x2 6 (ix x2 6 (lt (mset G55 (q0 + 2) x2.toNatClampNeg (G55 (q1 + 7 + 5 * x2.toNatClampNeg) 2)) (fun G70 => bd (fX4_finePerWeek q1 x2 G70) (fun r78 G78 => ix x2 6 (lt (mset G78 (q0 + 3) x2.toNatClampNeg r78) (fun G81 => rec15 ((x2 + 1), G81))))))))))
def bX5_lookAt_15 (q0 : Nat) (q1 : Nat) (rec15 : (Int32 × Mem) → Option (Mem)) (x2 : Int32) (G : Mem) : Option (Mem) := (if 6 ≤ x2 then some G else ix x2 6 ((if (G (q1 + 7 + 5 * x2.toNatClampNeg) 0) = 0 then jX5_lookAt_45 rec15 q0 q1 x2 G else lt (mset G q0 4 ((G q0 4) ||| (1 <<< (x2 &&& 31)))) (fun G42 => jX5_lookAt_45 rec15 q0 q1 x2 G42))))
def FX5_lookAt_15 (q0 : Nat) (q1 : Nat) : ((Int32 × Mem) → Option (Mem)) → (Int32 × Mem) → Option (Mem) := fun rec x => bX5_lookAt_15 q0 q1 rec x.1 x.2
def fX5_lookAt (q0 : Nat) (q1 : Nat) (G : Mem) : Option (Mem) := lt (mset G q0 4 0) (fun G2 => lt (mset G2 q0 5 (G2 q1 2)) (fun G10 => itr FU (FX5_lookAt_15 q0 q1) (0, G10)))
def fX5_isIn (x0 : Int32) (x1 : Int32) (G : Mem) : Option (Int32 × Mem) := (if (x1 &&& (1 <<< (x0 &&& 31))) = 0 then some (0, G) else some (1, G))
def bX5_finesIfNext_15 (q0 : Nat) (x1 : Int32) (x2 : Int32) (rec15 : (Int32 × Int32 × Mem) → Option (Int32 × Mem)) (x3 : Int32) (x4 : Int32) (G : Mem) : Option (Int32 × Mem) := (if 6 ≤ x4 then ix x1 6 (ix x1 6 (ix (x2 &&& ((1 <<< (x1 &&& 31)) ^^^ (-1))) 64 (some ((((G (q0 + 3) x1.toNatClampNeg) * (if (x3 - (G (q0 + 2) x1.toNatClampNeg)) < 0 then 0 else (x3 - (G (q0 + 2) x1.toNatClampNeg)))) + (G (q0 + 4) (x2 &&& ((1 <<< (x1 &&& 31)) ^^^ (-1))).toNatClampNeg)), G)))) else bd (fX5_isIn x4 (G q0 4) G) (fun r28 G28 => (if r28 = 0 then rec15 (x3, (x4 + 1), G28) else bd (fX5_isIn x4 x2 G28) (fun r37 G37 => (if r37 = 0 then ix x4 6 (rec15 ((x3 + (G37 (q0 + 1) x4.toNatClampNeg)), (x4 + 1), G37)) else rec15 (x3, (x4 + 1), G37))))))
def FX5_finesIfNext_15 (q0 : Nat) (x1 : Int32) (x2 : Int32) : ((Int32 × Int32 × Mem) → Option (Int32 × Mem)) → (Int32 × Int32 × Mem) → Option (Int32 × Mem) := fun rec x => bX5_finesIfNext_15 q0 x1 x2 rec x.1 x.2.1 x.2.2
def fX5_finesIfNext (q0 : Nat) (x1 : Int32) (x2 : Int32) (G : Mem) : Option (Int32 × Mem) := ix x1 6 (itr FU (FX5_finesIfNext_15 q0 x1 x2) (((G q0 5) + (G (q0 + 1) x1.toNatClampNeg)), 0, G))
def bX5_leastOf_5 (q0 : Nat) (x1 : Int32) (rec5 : (Int32 × Int32 × Mem) → Option (Int32 × Mem)) (x2 : Int32) (x3 : Int32) (G : Mem) : Option (Int32 × Mem) := (if 6 ≤ x3 then some (x2, G) else bd (fX5_isIn x3 x1 G) (fun r13 G13 => (if r13 = 0 then rec5 (x2, (x3 + 1), G13) else bd (fX5_finesIfNext q0 x3 x1 G13) (fun r23 G23 => rec5 ((if r23 < x2 then r23 else x2), (x3 + 1), G23)))))
def FX5_leastOf_5 (q0 : Nat) (x1 : Int32) : ((Int32 × Int32 × Mem) → Option (Int32 × Mem)) → (Int32 × Int32 × Mem) → Option (Int32 × Mem) := fun rec x => bX5_leastOf_5 q0 x1 rec x.1 x.2.1 x.2.2
def fX5_leastOf (q0 : Nat) (x1 : Int32) (G : Mem) : Option (Int32 × Mem) := itr FU (FX5_leastOf_5 q0 x1) (2147483647, 0, G)
def bX5_reckon_14 (q0 : Nat) (rec14 : (Int32 × Mem) → Option (Mem)) (x2 : Int32) (G : Mem) : Option (Mem) := (if 64 ≤ x2 then some G else (if (x2 &&& ((G q0 4) ^^^ (-1))) = 0 then bd (fX5_leastOf q0 x2 G) (fun r41 G41 => ix x2 64 (lt (mset G41 (q0 + 4) x2.toNatClampNeg r41) (fun G44 => rec14 ((x2 + 1), G44)))) else rec14 ((x2 + 1), G)))
def FX5_reckon_14 (q0 : Nat) : ((Int32 × Mem) → Option (Mem)) → (Int32 × Mem) → Option (Mem) := fun rec x => bX5_reckon_14 q0 rec x.1 x.2
def fX5_reckon (q0 : Nat) (q1 : Nat) (G : Mem) : Option (Mem) := bv (fX5_lookAt q0 q1 G) (fun G2 => lt (mset G2 (q0 + 4) 0 0) (fun G11 => itr FU (FX5_reckon_14 q0) (1, G11)))
def fX5_leastFines (q0 : Nat) (G : Mem) : Option (Int32 × Mem) := ix (G q0 4) 64 (some ((G (q0 + 4) (G q0 4).toNatClampNeg), G))
def bX5_firstField_2 (q0 : Nat) (rec2 : (Int32 × Mem) → Option (Int32 × Mem)) (x1 : Int32) (G : Mem) : Option (Int32 × Mem) := (if 6 ≤ x1 then some ((-9), G) else bd (fX5_isIn x1 (G q0 4) G) (fun r13 G13 => (if r13 = 0 then rec2 ((x1 + 1), G13) else bd (fX5_finesIfNext q0 x1 (G13 q0 4) G13) (fun r25 G25 => ix (G25 q0 4) 64 ((if r25 = (G25 (q0 + 4) (G25 q0 4).toNatClampNeg) then some (x1, G25) else rec2 ((x1 + 1), G25)))))))
def FX5_firstField_2 (q0 : Nat) : ((Int32 × Mem) → Option (Int32 × Mem)) → (Int32 × Mem) → Option (Int32 × Mem) := fun rec x => bX5_firstField_2 q0 rec x.1 x.2
def fX5_firstField (q0 : Nat) (G : Mem) : Option (Int32 × Mem) := itr FU (FX5_firstField_2 q0) (0, G)
def fX8_isWithin (x0 : Int32) (x1 : Int32) (x2 : Int32) (G : Mem) : Option (Int32 × Mem) := (if x0 < x1 then some (0, G) else (if x2 < x0 then some (0, G) else some (1, G)))
def fX8_isField (x0 : Int32) (G : Mem) : Option (Int32 × Mem) := bd (fX8_isWithin x0 0 5 G) (fun r3 G3 => zk r3 (some (r3, G3)))
def fX8_isChain (q0 : Nat) (x1 : Int32) (x2 : Int32) (G : Mem) : Option (Int32 × Mem) := bd (fX8_isField x1 G) (fun r1 G1 => (if r1 = 0 then some (0, G1) else ix x1 6 (bd (fX1_has ((q0 + 2) + 3 + 5 * x1.toNatClampNeg) x2 G1) (fun r17 G17 => (if r17 = 0 then some (0, G17) else some (1, G17))))))
def bX8_lay_67 (q0 : Nat) (x1 : Int32) (x2 : Int32) (x3 : Int32) (rec67 : (Int32 × Mem) → Option (Int32 × Mem)) (x4 : Int32) (G : Mem) : Option (Int32 × Mem) := (if x3 ≤ x4 then some (x4, G) else bd (fX4_canLay (q0 + 2) x1 (x2 + x4) G) (fun r82 G82 => (if r82 = 0 then some (x4, G82) else bv (fX4_layChain (q0 + 2) x1 (x2 + x4) G82) (fun G97 => rec67 ((x4 + 1), G97)))))
def FX8_lay_67 (q0 : Nat) (x1 : Int32) (x2 : Int32) (x3 : Int32) : ((Int32 × Mem) → Option (Int32 × Mem)) → (Int32 × Mem) → Option (Int32 × Mem) := fun rec x => bX8_lay_67 q0 x1 x2 x3 rec x.1 x.2
def fX8_lay (q0 : Nat) (x1 : Int32) (x2 : Int32) (x3 : Int32) (G : Mem) : Option (Int32 × Mem) := bd (fX8_isChain q0 x1 x2 G) (fun r3 G3 => (if r3 = 0 then some ((-1), G3) else bd (fX8_isWithin x3 1 30 G3) (fun r13 G13 => (if r13 = 0 then some ((-1), G13) else bd (fX4_isClosed (q0 + 2) (G13 (q0 + 2) 2) G13) (fun r32 G32 => (if r32 = 0 then bd (fX4_canLay (q0 + 2) x1 x2 G32) (fun r44 G44 => (if r44 = 0 then some ((-2), G44) else bv (fX3_keep (q0 + 103) (q0 + 1) G44) (fun G61 => itr FU (FX8_lay_67 q0 x1 x2 x3) (0, G61)))) else some ((-2), G32)))))))
def fX8_cut (q0 : Nat) (x1 : Int32) (x2 : Int32) (G : Mem) : Option (Int32 × Mem) := bd (fX8_isChain q0 x1 x2 G) (fun r3 G3 => (if r3 = 0 then some ((-1), G3) else bd (fX4_isClosed (q0 + 2) (G3 (q0 + 2) 2) G3) (fun r22 G22 => (if r22 = 0 then bd (fX4_canCut (q0 + 2) x1 x2 G22) (fun r34 G34 => (if r34 = 0 then some ((-2), G34) else bv (fX3_keep (q0 + 103) (q0 + 1) G34) (fun G51 => bv (fX4_cutChain (q0 + 2) x1 x2 G51) (fun G60 => some ((G60 (q0 + 2) 7), G60))))) else some ((-2), G22)))))
def fX8_plant (q0 : Nat) (x1 : Int32) (x2 : Int32) (G : Mem) : Option (Int32 × Mem) := bd (fX8_isChain q0 x1 x2 G) (fun r3 G3 => (if r3 = 0 then some ((-1), G3) else bd (fX4_canPlant (q0 + 2) x1 x2 G3) (fun r17 G17 => (if r17 = 0 then some ((-2), G17) else bv (fX3_keep (q0 + 103) (q0 + 1) G17) (fun G34 => bv (fX4_plantChain (q0 + 2) x1 x2 G34) (fun G43 => some ((G43 (q0 + 2) 6), G43)))))))
def fX8_grub (q0 : Nat) (x1 : Int32) (x2 : Int32) (G : Mem) : Option (Int32 × Mem) := bd (fX8_isChain q0 x1 x2 G) (fun r3 G3 => (if r3 = 0 then some ((-1), G3) else ix x1 6 (bd (fX1_kindOf ((q0 + 2) + 3 + 5 * x1.toNatClampNeg) x2 G3) (fun r21 G21 => (if r21 = 2 then some ((-2), G21) else bv (fX3_keep (q0 + 103) (q0 + 1) G21) (fun G41 => bv (fX4_grubChain (q0 + 2) x1 x2 G41) (fun G50 => some (r21, G50))))))))
def bX8_pass_45 (q0 : Nat) (x1 : Int32) (rec45 : (Int32 × Int32 × Mem) → Option (Int32 × Mem)) (x2 : Int32) (x3 : Int32) (G : Mem) : Option (Int32 × Mem) := (if x1 ≤ x3 then some (x2, G) else bd (fX4_passWeek (q0 + 2) G) (fun r55 G55 => rec45 ((x2 + r55), (x3 + 1), G55)))
def FX8_pass_45 (q0 : Nat) (x1 : Int32) : ((Int32 × Int32 × Mem) → Option (Int32 × Mem)) → (Int32 × Int32 × Mem) → Option (Int32 × Mem) := fun rec x => bX8_pass_45 q0 x1 rec x.1 x.2.1 x.2.2
def fX8_pass (q0 : Nat) (x1 : Int32) (G : Mem) : Option (Int32 × Mem) := bd (fX8_isWithin x1 1 60 G) (fun r4 G4 => (if r4 = 0 then some ((-1), G4) else (if ((G4 (q0 + 2) 2) + x1) ≤ 1000 then bv (fX3_keep (q0 + 103) (q0 + 1) G4) (fun G38 => itr FU (FX8_pass_45 q0 x1) (0, 0, G38)) else some ((-3), G4))))
def fX8_canBeSet (x0 : Int32) (x1 : Int32) (G : Mem) : Option (Int32 × Mem) := (if x0 = 0 then bd (fX8_isWithin x1 0 51 G) (fun r32 G32 => zk r32 (some (r32, G32))) else (if x0 = 1 then bd (fX8_isWithin x1 0 51 G) (fun r40 G40 => zk r40 (some (r40, G40))) else (if x0 = 2 then bd (fX8_isWithin x1 1 100 G) (fun r48 G48 => zk r48 (some (r48, G48))) else some (0, G))))
def fX8_set (q0 : Nat) (x1 : Int32) (x2 : Int32) (G : Mem) : Option (Int32 × Mem) := bd (fX8_canBeSet x1 x2 G) (fun r2 G2 => (if r2 = 0 then some ((-1), G2) else bv (fX3_keep (q0 + 103) (q0 + 1) G2) (fun G18 => bd (fX4_settingOf (q0 + 2) x1 G18) (fun r26 G26 => bv (fX4_changeSetting (q0 + 2) x1 x2 G26) (fun G36 => some (r26, G36))))))
def fX8_contract (q0 : Nat) (x1 : Int32) (x2 : Int32) (x3 : Int32) (x4 : Int32) (G : Mem) : Option (Int32 × Mem) := bd (fX8_isField x1 G) (fun r1 G1 => (if r1 = 0 then some ((-1), G1) else bd (fX8_isWithin x2 0 20 G1) (fun r11 G11 => (if r11 = 0 then some ((-1), G11) else bd (fX8_isWithin x3 0 100 G11) (fun r21 G21 => (if r21 = 0 then some ((-1), G21) else bd (fX8_isWithin x4 0 9 G21) (fun r32 G32 => (if r32 = 0 then some ((-1), G32) else ix x1 6 (bd (fX1_numberOf ((q0 + 2) + 3 + 5 * x1.toNatClampNeg) 0 G32) (fun r50 G50 => ix x1 6 ((if (G50 ((q0 + 2) + 7 + 5 * x1.toNatClampNeg) 0) = 0 then (if r50 = 0 then some ((-2), G50) else bv (fX3_keep (q0 + 103) (q0 + 1) G50) (fun G86 => ix x1 6 (bv (fX0_make ((q0 + 2) + 7 + 5 * x1.toNatClampNeg) x2 ((G86 (q0 + 2) 2) + x3) x4 G86) (fun G110 => some (r50, G110))))) else some ((-2), G50)))))))))))))
def fX8_giveBack (q0 : Nat) (x1 : Int32) (G : Mem) : Option (Int32 × Mem) := bd (fX8_isField x1 G) (fun r1 G1 => (if r1 = 0 then some ((-1), G1) else ix x1 6 ((if (G1 ((q0 + 2) + 7 + 5 * x1.toNatClampNeg) 0) = 0 then some ((-2), G1) else bv (fX3_keep (q0 + 103) (q0 + 1) G1) (fun G37 => bv (fX4_spend (q0 + 2) (5 * (G37 ((q0 + 2) + 7 + 5 * x1.toNatClampNeg) 3)) G37) (fun G52 => lt (mset G52 ((q0 + 2) + 7 + 5 * x1.toNatClampNeg) 0 0) (fun G57 => some ((5 * (G37 ((q0 + 2) + 7 + 5 * x1.toNatClampNeg) 3)), G57))))))))
def fX8_payDebt (q0 : Nat) (G : Mem) : Option (Int32 × Mem) := (if (if (G (q0 + 2) 9) < (G (q0 + 2) 8) then (G (q0 + 2) 9) else (G (q0 + 2) 8)) = 0 then some ((-2), G) else bv (fX3_keep (q0 + 103) (q0 + 1) G) (fun G33 => lt (mset G33 (q0 + 2) 8 ((G33 (q0 + 2) 8) - (if (G (q0 + 2) 9) < (G (q0 + 2) 8) then (G (q0 + 2) 9) else (G (q0 + 2) 8)))) (fun G46 => lt (mset G46 (q0 + 2) 9 ((G46 (q0 + 2) 9) - (if (G (q0 + 2) 9) < (G (q0 + 2) 8) then (G (q0 + 2) 9) else (G (q0 + 2) 8)))) (fun G59 => some ((if (G (q0 + 2) 9) < (G (q0 + 2) 8) then (G (q0 + 2) 9) else (G (q0 + 2) 8)), G59)))))
def fX8_isSlot (x0 : Int32) (G : Mem) : Option (Int32 × Mem) := bd (fX8_isWithin x0 0 1 G) (fun r3 G3 => zk r3 (some (r3, G3)))
def fX8_take (q0 : Nat) (x1 : Int32) (G : Mem) : Option (Int32 × Mem) := bd (fX8_isSlot x1 G) (fun r1 G1 => (if r1 = 0 then some ((-1), G1) else bv (fX3_keep (q0 + 103) (q0 + 1) G1) (fun G17 => bv (fX6_fillSlot (q0 + 1) x1 G17) (fun G25 => some ((G25 (q0 + 2) 2), G25)))))
def fX8_restore (q0 : Nat) (x1 : Int32) (G : Mem) : Option (Int32 × Mem) := bd (fX8_isSlot x1 G) (fun r1 G1 => (if r1 = 0 then some ((-1), G1) else ix x1 2 ((if (G1 ((q0 + 1) + 35) x1.toNatClampNeg) = 0 then some ((-2), G1) else bv (fX3_keep (q0 + 103) (q0 + 1) G1) (fun G32 => ix x1 2 (bv (fX4_copyFrom (q0 + 2) ((q0 + 1) + 36 + 33 * x1.toNatClampNeg) G32) (fun G48 => some ((G48 (q0 + 2) 2), G48))))))))
def fX8_undo (q0 : Nat) (G : Mem) : Option (Int32 × Mem) := (if (G (q0 + 103) 2) = 0 then some ((-2), G) else bv (fX3_bringBack (q0 + 103) (q0 + 1) G) (fun G21 => some ((G21 (q0 + 103) 2), G21)))
def fX8_append (q0 : Nat) (x1 : Int32) (G : Mem) : Option (Int32 × Mem) := bd (fX8_isWithin x1 1 255 G) (fun r5 G5 => (if r5 = 0 then some ((-1), G5) else (if (G5 (q0 + 615) 1) < 80 then bv (fX7_addSign (q0 + 615) (((x1).toUInt32 % 65536).toInt32) G5) (fun G34 => some ((G34 (q0 + 615) 1), G34)) else some ((-3), G5))))
def fX8_clearText (q0 : Nat) (G : Mem) : Option (Int32 × Mem) := lt (mset G (q0 + 615) 1 0) (fun G13 => some ((G (q0 + 615) 1), G13))
def fX8_read (q0 : Nat) (x1 : Int32) (G : Mem) : Option (Int32 × Mem) := bd (fX8_isField x1 G) (fun r1 G1 => (if r1 = 0 then some ((-1), G1) else bd (fX2_faultOf (q0 + 617) (q0 + 615) G1) (fun r17 G17 => (if r17 = (-1) then (if (G17 (q0 + 617) 1) ≤ 30 then bv (fX3_keep (q0 + 103) (q0 + 1) G17) (fun G55 => bv (fX4_replaceHedge (q0 + 2) x1 ((q0 + 617) + 1) G55) (fun G70 => lt (mset G70 (q0 + 615) 1 0) (fun G78 => ix x1 6 (some ((G78 ((q0 + 2) + 3 + 5 * x1.toNatClampNeg) 3), G78))))) else some ((-3), G17)) else some (((-1000) - r17), G17)))))
def fX8_count (q0 : Nat) (x1 : Int32) (G : Mem) : Option (Int32 × Mem) := (if x1 = 0 then some ((G (q0 + 2) 2), G) else (if x1 = 1 then some (((G (q0 + 2) 2) - (G (q0 + 2) 2) / 52 * 52), G) else (if x1 = 2 then bd (fX4_isClosed (q0 + 2) (G (q0 + 2) 2) G) (fun r118 G118 => (if r118 = 0 then some (0, G118) else some (1, G118))) else (if x1 = 3 then some ((G (q0 + 2) 6), G) else (if x1 = 4 then some ((G (q0 + 2) 7), G) else (if x1 = 5 then some ((G (q0 + 2) 8), G) else (if x1 = 6 then some ((G (q0 + 2) 9), G) else (if x1 = 7 then some ((G (q0 + 2) 10), G) else (if x1 = 8 then some ((G (q0 + 2) 11), G) else (if x1 = 9 then bd (fX4_numberOfContracts (q0 + 2) G) (fun r182 G182 => some (r182, G182)) else (if x1 = 10 then some ((G (q0 + 2) 12), G) else (if x1 = 11 then some ((G (q0 + 2) 13), G) else (if x1 = 12 then bd (fX4_settingOf (q0 + 2) 0 G) (fun r207 G207 => some (r207, G207)) else (if x1 = 13 then bd (fX4_settingOf (q0 + 2) 1 G) (fun r216 G216 => some (r216, G216)) else (if x1 = 14 then bd (fX4_settingOf (q0 + 2) 2 G) (fun r225 G225 => some (r225, G225)) else (if x1 = 15 then bd (fX6_numberOfSnapshots (q0 + 1) G) (fun r233 G233 => some (r233, G233)) else (if x1 = 16 then some ((G (q0 + 103) 2), G) else (if x1 = 17 then some ((G (q0 + 615) 1), G) else some ((-1), G)))))))))))))))))))
def fX8_field (q0 : Nat) (x1 : Int32) (x2 : Int32) (G : Mem) : Option (Int32 × Mem) := bd (fX8_isField x1 G) (fun r1 G1 => (if r1 = 0 then some ((-1), G1) else ix x1 6 (ix x1 6 ((if x2 = 0 then some ((G1 ((q0 + 2) + 3 + 5 * x1.toNatClampNeg) 3), G1) else (if x2 = 1 then bd (fX1_numberOf ((q0 + 2) + 3 + 5 * x1.toNatClampNeg) 0 G1) (fun r95 G95 => some (r95, G95)) else (if x2 = 2 then bd (fX1_numberOf ((q0 + 2) + 3 + 5 * x1.toNatClampNeg) 1 G1) (fun r101 G101 => some (r101, G101)) else (if x2 = 3 then bd (fX1_numberOf ((q0 + 2) + 3 + 5 * x1.toNatClampNeg) 2 G1) (fun r107 G107 => some (r107, G107)) else (if x2 = 4 then bd (fX1_numberOf ((q0 + 2) + 3 + 5 * x1.toNatClampNeg) 3 G1) (fun r113 G113 => some (r113, G113)) else (if x2 = 5 then bd (fX1_longestRunBegin ((q0 + 2) + 3 + 5 * x1.toNatClampNeg) G1) (fun r119 G119 => bd (fX1_runFrom ((q0 + 2) + 3 + 5 * x1.toNatClampNeg) r119 G119) (fun r122 G122 => some (r122, G122))) else (if x2 = 6 then bd (fX1_longestRunBegin ((q0 + 2) + 3 + 5 * x1.toNatClampNeg) G1) (fun r127 G127 => some (r127, G127)) else (if x2 = 7 then (if (G1 ((q0 + 2) + 7 + 5 * x1.toNatClampNeg) 0) = 0 then some (0, G1) else some (1, G1)) else (if x2 = 8 then (if (G1 ((q0 + 2) + 7 + 5 * x1.toNatClampNeg) 0) = 0 then some ((-9), G1) else some ((G1 ((q0 + 2) + 7 + 5 * x1.toNatClampNeg) 1), G1)) else (if x2 = 9 then (if (G1 ((q0 + 2) + 7 + 5 * x1.toNatClampNeg) 0) = 0 then some ((-9), G1) else some ((G1 ((q0 + 2) + 7 + 5 * x1.toNatClampNeg) 2), G1)) else (if x2 = 10 then (if (G1 ((q0 + 2) + 7 + 5 * x1.toNatClampNeg) 0) = 0 then some ((-9), G1) else some ((G1 ((q0 + 2) + 7 + 5 * x1.toNatClampNeg) 3), G1)) else some ((-1), G1))))))))))))))))
def fX8_chain (q0 : Nat) (x1 : Int32) (x2 : Int32) (x3 : Int32) (G : Mem) : Option (Int32 × Mem) := bd (fX8_isChain q0 x1 x2 G) (fun r3 G3 => (if r3 = 0 then some ((-1), G3) else ix x1 6 ((if x3 = 0 then bd (fX1_kindOf ((q0 + 2) + 3 + 5 * x1.toNatClampNeg) x2 G3) (fun r51 G51 => some (r51, G51)) else (if x3 = 1 then bd (fX1_thicknessOf ((q0 + 2) + 3 + 5 * x1.toNatClampNeg) x2 G3) (fun r58 G58 => some (r58, G58)) else (if x3 = 2 then bd (fX1_ageOf ((q0 + 2) + 3 + 5 * x1.toNatClampNeg) x2 G3) (fun r65 G65 => some (r65, G65)) else some ((-1), G3)))))))
def fX8_toLay (q0 : Nat) (x1 : Int32) (x2 : Int32) (G : Mem) : Option (Int32 × Mem) := bd (fX8_isField x1 G) (fun r1 G1 => (if r1 = 0 then some ((-1), G1) else bd (fX8_isWithin x2 0 1 G1) (fun r10 G10 => (if r10 = 0 then some ((-1), G10) else ix x1 6 ((if x2 = 0 then bd (fX1_workToLay ((q0 + 2) + 3 + 5 * x1.toNatClampNeg) G10) (fun r33 G33 => some (r33, G33)) else bd (fX1_stakesToLay ((q0 + 2) + 3 + 5 * x1.toNatClampNeg) G10) (fun r40 G40 => some (r40, G40))))))))
def fX8_stakesIn (q0 : Nat) (x1 : Int32) (G : Mem) : Option (Int32 × Mem) := bd (fX8_isField x1 G) (fun r1 G1 => (if r1 = 0 then some ((-1), G1) else ix x1 6 (bd (fX1_stakesToCut ((q0 + 2) + 3 + 5 * x1.toNatClampNeg) G1) (fun r16 G16 => some (r16, G16)))))
def fX8_doneIn (q0 : Nat) (x1 : Int32) (G : Mem) : Option (Int32 × Mem) := bd (fX8_isField x1 G) (fun r1 G1 => (if r1 = 0 then some ((-1), G1) else bd (fX4_weeksUntilLaid (q0 + 2) x1 G1) (fun r12 G12 => some (r12, G12))))
def fX8_bestOrder (q0 : Nat) (x1 : Int32) (G : Mem) : Option (Int32 × Mem) := bd (fX8_isWithin x1 0 1 G) (fun r3 G3 => (if r3 = 0 then some ((-1), G3) else bd (fX4_numberOfContracts (q0 + 2) G3) (fun r15 G15 => (if r15 = 0 then some ((-9), G15) else bv (fX5_reckon (q0 + 622) (q0 + 2) G15) (fun G32 => (if x1 = 0 then bd (fX5_leastFines (q0 + 622) G32) (fun r43 G43 => some (r43, G43)) else bd (fX5_firstField (q0 + 622) G32) (fun r53 G53 => some (r53, G53))))))))
def fX9_lays (q0 : Nat) (x1 : Int32) (x2 : Int32) (x3 : Int32) (x4 : Int32) (G : Mem) : Option (Mem) := ix ((42 + (30 * x1)) + x2) 668 (lt (mset G (q0 + 1) ((42 + (30 * x1)) + x2).toNatClampNeg (x3 + (4 * x4))) (fun G19 => some G19))
def fX9_in (x0 : Int32) (x1 : Int32) (x2 : Int32) (G : Mem) : Option (Int32 × Mem) := (if x0 < x1 then some (0, G) else (if x2 < x0 then some (0, G) else some (1, G)))
def fX9_isField (x0 : Int32) (G : Mem) : Option (Int32 × Mem) := bd (fX9_in x0 0 5 G) (fun r3 G3 => zk r3 (some (r3, G3)))
def fX9_isChain (q0 : Nat) (x1 : Int32) (x2 : Int32) (G : Mem) : Option (Int32 × Mem) := bd (fX9_isField x1 G) (fun r1 G1 => (if r1 = 0 then some (0, G1) else ix (12 + x1) 668 (bd (fX9_in x2 0 ((G1 (q0 + 1) (12 + x1).toNatClampNeg) - 1) G1) (fun r20 G20 => (if r20 = 0 then some (0, G20) else some (1, G20))))))
def fX9_isClosed (q0 : Nat) (x1 : Int32) (G : Mem) : Option (Int32 × Mem) := (if (G (q0 + 1) 10) < (G (q0 + 1) 9) then (if (G (q0 + 1) 9) ≤ (x1 - x1 / 52 * 52) then some (1, G) else (if (G (q0 + 1) 10) < (x1 - x1 / 52 * 52) then some (0, G) else some (1, G))) else (if (x1 - x1 / 52 * 52) < (G (q0 + 1) 9) then some (0, G) else (if (G (q0 + 1) 10) < (x1 - x1 / 52 * 52) then some (0, G) else some (1, G))))
def fX9_thickness (q0 : Nat) (x1 : Int32) (x2 : Int32) (G : Mem) : Option (Int32 × Mem) := ix ((42 + (30 * x1)) + x2) 668 (some ((((G (q0 + 1) ((42 + (30 * x1)) + x2).toNatClampNeg) / 4) - ((G (q0 + 1) ((42 + (30 * x1)) + x2).toNatClampNeg) / 4) / 16 * 16), G))
def fX9_kindOf (q0 : Nat) (x1 : Int32) (x2 : Int32) (G : Mem) : Option (Int32 × Mem) := ix ((42 + (30 * x1)) + x2) 668 (some (((G (q0 + 1) ((42 + (30 * x1)) + x2).toNatClampNeg) - (G (q0 + 1) ((42 + (30 * x1)) + x2).toNatClampNeg) / 4 * 4), G))
def fX9_canLay (q0 : Nat) (x1 : Int32) (x2 : Int32) (G : Mem) : Option (Int32 × Mem) := bd (fX9_thickness q0 x1 x2 G) (fun r3 G3 => bd (fX9_kindOf q0 x1 x2 G3) (fun r10 G10 => (if r10 = 0 then (if r3 < 2 then some (0, G10) else (if (G10 (q0 + 1) 1) < r3 then some (0, G10) else (if (G10 (q0 + 1) 2) < 2 then some (0, G10) else some (1, G10)))) else some (0, G10))))
def bX9_keeps_2 (q0 : Nat) (rec2 : (Int32 × Mem) → Option (Mem)) (x1 : Int32) (G : Mem) : Option (Mem) := (if 668 ≤ x1 then some G else ix x1 668 (ix x1 668 (lt (mset G (q0 + 3) x1.toNatClampNeg (G (q0 + 1) x1.toNatClampNeg)) (fun G20 => rec2 ((x1 + 1), G20)))))
def FX9_keeps_2 (q0 : Nat) : ((Int32 × Mem) → Option (Mem)) → (Int32 × Mem) → Option (Mem) := fun rec x => bX9_keeps_2 q0 rec x.1 x.2
def fX9_keeps (q0 : Nat) (G : Mem) : Option (Mem) := itr FU (FX9_keeps_2 q0) (0, G)
def fX9_con (q0 : Nat) (x1 : Int32) (x2 : Int32) (G : Mem) : Option (Int32 × Mem) := ix ((18 + (4 * x1)) + x2) 668 (some ((G (q0 + 1) ((18 + (4 * x1)) + x2).toNatClampNeg), G))
def jX9_ofKind_36 (rec5 : (Int32 × Int32 × Mem) → Option (Int32 × Mem)) (q0 : Nat) (x1 : Int32) (x2 : Int32) (x4 : Int32) (y0 : Int32) (y1 : Int32) (G : Mem) : Option (Int32 × Mem) := rec5 ((y1 + y0), (x4 + 1), G)
def bX9_ofKind_5 (q0 : Nat) (x1 : Int32) (x2 : Int32) (rec5 : (Int32 × Int32 × Mem) → Option (Int32 × Mem)) (x3 : Int32) (x4 : Int32) (G : Mem) : Option (Int32 × Mem) := ix (12 + x1) 668 ((if (G (q0 + 1) (12 + x1).toNatClampNeg) ≤ x4 then some (x3, G) else bd (fX9_kindOf q0 x1 x4 G) (fun r24 G24 => (if r24 = x2 then jX9_ofKind_36 rec5 q0 x1 x2 x4 1 x3 G24 else jX9_ofKind_36 rec5 q0 x1 x2 x4 0 x3 G24))))
def FX9_ofKind_5 (q0 : Nat) (x1 : Int32) (x2 : Int32) : ((Int32 × Int32 × Mem) → Option (Int32 × Mem)) → (Int32 × Int32 × Mem) → Option (Int32 × Mem) := fun rec x => bX9_ofKind_5 q0 x1 x2 rec x.1 x.2.1 x.2.2
def fX9_ofKind (q0 : Nat) (x1 : Int32) (x2 : Int32) (G : Mem) : Option (Int32 × Mem) := itr FU (FX9_ofKind_5 q0 x1 x2) (0, 0, G)
def bX9_ends_2 (q0 : Nat) (x1 : Int32) (rec2 : (Int32 × Mem) → Option (Mem)) (x2 : Int32) (G : Mem) : Option (Mem) := (if 4 ≤ x2 then some G else bd (fX9_ofKind q0 x1 0 G) (fun r10 G10 => (if r10 = 0 then ix ((18 + (4 * x1)) + x2) 668 (lt (mset G10 (q0 + 1) ((18 + (4 * x1)) + x2).toNatClampNeg 0) (fun G29 => rec2 ((x2 + 1), G29))) else some G10)))
def FX9_ends_2 (q0 : Nat) (x1 : Int32) : ((Int32 × Mem) → Option (Mem)) → (Int32 × Mem) → Option (Mem) := fun rec x => bX9_ends_2 q0 x1 rec x.1 x.2
def fX9_ends (q0 : Nat) (x1 : Int32) (G : Mem) : Option (Mem) := itr FU (FX9_ends_2 q0 x1) (0, G)
def bX9_acted_55 (q0 : Nat) (x1 : Int32) (rec55 : (Int32 × Mem) → Option (Int32 × Mem)) (x2 : Int32) (G : Mem) : Option (Int32 × Mem) := (if 668 ≤ x2 then lt (mset G q0 4 ((G q0 4) + 1)) (fun G96 => some (x1, G96)) else ix x2 668 (ix ((668 * (G q0 4)) + x2) 3340 (lt (mset G (q0 + 2) ((668 * (G q0 4)) + x2).toNatClampNeg (G (q0 + 3) x2.toNatClampNeg)) (fun G82 => rec55 ((x2 + 1), G82)))))
def FX9_acted_55 (q0 : Nat) (x1 : Int32) : ((Int32 × Mem) → Option (Int32 × Mem)) → (Int32 × Mem) → Option (Int32 × Mem) := fun rec x => bX9_acted_55 q0 x1 rec x.1 x.2
def bX9_acted_14 (q0 : Nat) (x1 : Int32) (rec14 : (Int32 × Mem) → Option (Int32 × Mem)) (x2 : Int32) (G : Mem) : Option (Int32 × Mem) := (if 2672 ≤ x2 then lt (mset G q0 4 ((G q0 4) - 1)) (fun G50 => itr FU (FX9_acted_55 q0 x1) (0, G50)) else ix (x2 + 668) 3340 (ix x2 3340 (lt (mset G (q0 + 2) x2.toNatClampNeg (G (q0 + 2) (x2 + 668).toNatClampNeg)) (fun G36 => rec14 ((x2 + 1), G36)))))
def FX9_acted_14 (q0 : Nat) (x1 : Int32) : ((Int32 × Mem) → Option (Int32 × Mem)) → (Int32 × Mem) → Option (Int32 × Mem) := fun rec x => bX9_acted_14 q0 x1 rec x.1 x.2
def fX9_acted (q0 : Nat) (x1 : Int32) (G : Mem) : Option (Int32 × Mem) := (if x1 < 0 then some (x1, G) else (if (G q0 4) = 5 then itr FU (FX9_acted_14 q0 x1) (0, G) else itr FU (FX9_acted_55 q0 x1) (0, G)))
def jX9_lay_191 (q0 : Nat) (x1 : Int32) (x4 : Int32) (G : Mem) : Option (Int32 × Mem) := bv (fX9_ends q0 x1 G) (fun G193 => bd (fX9_acted q0 x4 G193) (fun r199 G199 => some (r199, G199)))
def bX9_lay_56 (q0 : Nat) (x1 : Int32) (x3 : Int32) (rec56 : (Int32 × Int32 × Mem) → Option (Int32 × Mem)) (x4 : Int32) (x5 : Int32) (G : Mem) : Option (Int32 × Mem) := ix (12 + x1) 668 ((if (G (q0 + 1) (12 + x1).toNatClampNeg) ≤ x5 then jX9_lay_191 q0 x1 x4 G else (if x3 ≤ x4 then jX9_lay_191 q0 x1 x4 G else bd (fX9_canLay q0 x1 x5 G) (fun r80 G80 => (if r80 = 0 then jX9_lay_191 q0 x1 x4 G80 else bd (fX9_thickness q0 x1 x5 G80) (fun r97 G97 => lt (mset G97 (q0 + 1) 1 ((G80 (q0 + 1) 1) - r97)) (fun G101 => lt (mset G101 (q0 + 1) 2 ((G101 (q0 + 1) 2) - 2)) (fun G111 => bd (fX9_thickness q0 x1 x5 G111) (fun r121 G121 => bv (fX9_lays q0 x1 x5 1 r121 G121) (fun G124 => bd (fX9_con q0 x1 0 G124) (fun r137 G137 => bd (fX9_con q0 x1 1 G137) (fun r143 G143 => lt (mset G143 (q0 + 1) 3 ((G124 (q0 + 1) 3) + (r137 * r143))) (fun G148 => bd (fX9_con q0 x1 0 G148) (fun r159 G159 => bd (fX9_con q0 x1 1 G159) (fun r165 G165 => lt (mset G165 (q0 + 1) 5 ((G148 (q0 + 1) 5) + (r159 * r165))) (fun G170 => lt (mset G170 (q0 + 1) 7 ((G170 (q0 + 1) 7) + 1)) (fun G181 => rec56 ((x4 + 1), (x5 + 1), G181))))))))))))))))))
def FX9_lay_56 (q0 : Nat) (x1 : Int32) (x3 : Int32) : ((Int32 × Int32 × Mem) → Option (Int32 × Mem)) → (Int32 × Int32 × Mem) → Option (Int32 × Mem) := fun rec x => bX9_lay_56 q0 x1 x3 rec x.1 x.2.1 x.2.2
def fX9_lay (q0 : Nat) (x1 : Int32) (x2 : Int32) (x3 : Int32) (G : Mem) : Option (Int32 × Mem) := bd (fX9_isChain q0 x1 x2 G) (fun r3 G3 => (if r3 = 0 then some ((-1), G3) else bd (fX9_in x3 1 30 G3) (fun r13 G13 => (if r13 = 0 then some ((-1), G13) else bd (fX9_isClosed q0 (G13 (q0 + 1) 0) G13) (fun r28 G28 => (if r28 = 0 then bd (fX9_canLay q0 x1 x2 G28) (fun r37 G37 => (if r37 = 0 then some ((-2), G37) else bv (fX9_keeps q0 G37) (fun G47 => itr FU (FX9_lay_56 q0 x1 x3) (0, x2, G47)))) else some ((-2), G28)))))))
def fX9_cut (q0 : Nat) (x1 : Int32) (x2 : Int32) (G : Mem) : Option (Int32 × Mem) := bd (fX9_isChain q0 x1 x2 G) (fun r3 G3 => (if r3 = 0 then some ((-1), G3) else bd (fX9_thickness q0 x1 x2 G3) (fun r14 G14 => bd (fX9_isClosed q0 (G14 (q0 + 1) 0) G14) (fun r25 G25 => (if r25 = 0 then bd (fX9_kindOf q0 x1 x2 G25) (fun r34 G34 => (if r34 = 0 then (if r14 < 3 then some ((-2), G34) else (if 1 ≤ (G34 (q0 + 1) 1) then bv (fX9_keeps q0 G34) (fun G59 => lt (mset G59 (q0 + 1) 2 ((G59 (q0 + 1) 2) + r14)) (fun G71 => bv (fX9_lays q0 x1 x2 0 (r14 - 2) G71) (fun G79 => lt (mset G79 (q0 + 1) 1 ((G79 (q0 + 1) 1) - 1)) (fun G91 => bd (fX9_acted q0 (G91 (q0 + 1) 2) G91) (fun r99 G99 => some (r99, G99)))))) else some ((-2), G34))) else some ((-2), G34))) else some ((-2), G25))))))
def fX9_plant (q0 : Nat) (x1 : Int32) (x2 : Int32) (G : Mem) : Option (Int32 × Mem) := bd (fX9_isChain q0 x1 x2 G) (fun r3 G3 => (if r3 = 0 then some ((-1), G3) else bd (fX9_kindOf q0 x1 x2 G3) (fun r14 G14 => (if r14 = 2 then (if (G14 (q0 + 1) 1) < 2 then some ((-2), G14) else (if 3 ≤ (G14 (q0 + 1) 3) then bv (fX9_keeps q0 G14) (fun G45 => lt (mset G45 (q0 + 1) 1 ((G45 (q0 + 1) 1) - 2)) (fun G57 => lt (mset G57 (q0 + 1) 3 ((G57 (q0 + 1) 3) - 3)) (fun G67 => bv (fX9_lays q0 x1 x2 3 0 G67) (fun G73 => lt (mset G73 (q0 + 1) 8 ((G73 (q0 + 1) 8) + 1)) (fun G86 => bd (fX9_acted q0 (G86 (q0 + 1) 1) G86) (fun r94 G94 => some (r94, G94))))))) else some ((-2), G14))) else some ((-2), G14)))))
def fX9_grub (q0 : Nat) (x1 : Int32) (x2 : Int32) (G : Mem) : Option (Int32 × Mem) := bd (fX9_isChain q0 x1 x2 G) (fun r3 G3 => (if r3 = 0 then some ((-1), G3) else bd (fX9_kindOf q0 x1 x2 G3) (fun r14 G14 => (if r14 = 2 then some ((-2), G14) else bv (fX9_keeps q0 G14) (fun G27 => bv (fX9_lays q0 x1 x2 2 0 G27) (fun G35 => bv (fX9_ends q0 x1 G35) (fun G40 => bd (fX9_acted q0 r14 G40) (fun r45 G45 => some (r45, G45)))))))))
def fX9_age (q0 : Nat) (x1 : Int32) (x2 : Int32) (G : Mem) : Option (Int32 × Mem) := ix ((42 + (30 * x1)) + x2) 668 (some (((G (q0 + 1) ((42 + (30 * x1)) + x2).toNatClampNeg) / 64), G))
def jX9_grows_141 (x4 : Int32) (y0 : Int32) (y1 : Int32) (y2 : Int32) (z3 : Nat) (G : Mem) : Option (Mem) := (if x4 ≤ 7 then bv (fX9_lays z3 y2 y1 y0 (x4 + 2) G) (fun G157 => some G157) else bv (fX9_lays z3 y2 y1 y0 9 G) (fun G157 => some G157))
def jX9_grows_109 (q0 : Nat) (x1 : Int32) (x2 : Int32) (x3 : Int32) (x4 : Int32) (G : Mem) : Option (Mem) := (if x3 = 1 then (if ((G (q0 + 1) 0) - (G (q0 + 1) 0) / 52 * 52) = 0 then (if x4 ≤ 7 then jX9_grows_141 x4 1 x2 x1 q0 G else jX9_grows_141 x4 0 x2 x1 q0 G) else some G) else some G)
def jX9_grows_41 (q0 : Nat) (x1 : Int32) (x2 : Int32) (x3 : Int32) (x4 : Int32) (G : Mem) : Option (Mem) := (if x3 = 3 then ix ((42 + (30 * x1)) + x2) 668 (ix ((42 + (30 * x1)) + x2) 668 (lt (mset G (q0 + 1) ((42 + (30 * x1)) + x2).toNatClampNeg ((G (q0 + 1) ((42 + (30 * x1)) + x2).toNatClampNeg) + 64)) (fun G64 => some G64))) else (if x3 = 0 then (if ((G (q0 + 1) 0) - (G (q0 + 1) 0) / 4 * 4) = 0 then (if 9 ≤ x4 then bv (fX9_lays q0 x1 x2 0 9 G) (fun G103 => some G103) else bv (fX9_lays q0 x1 x2 0 (x4 + 1) G) (fun G103 => some G103)) else jX9_grows_109 q0 x1 x2 x3 x4 G) else jX9_grows_109 q0 x1 x2 x3 x4 G))
def fX9_grows (q0 : Nat) (x1 : Int32) (x2 : Int32) (G : Mem) : Option (Mem) := bd (fX9_kindOf q0 x1 x2 G) (fun r3 G3 => bd (fX9_thickness q0 x1 x2 G3) (fun r10 G10 => (if r3 = 3 then bd (fX9_age q0 x1 x2 G10) (fun r23 G23 => (if r23 = 5 then bv (fX9_lays q0 x1 x2 0 1 G23) (fun G35 => some G35) else jX9_grows_41 q0 x1 x2 r3 r10 G23)) else jX9_grows_41 q0 x1 x2 r3 r10 G10)))
def jX9_pays_20 (q0 : Nat) (x1 : Int32) (y0 : Int32) (G : Mem) : Option (Mem) := lt (mset G (q0 + 1) 3 ((G (q0 + 1) 3) - y0)) (fun G30 => lt (mset G30 (q0 + 1) 4 ((G30 (q0 + 1) 4) + (x1 - y0))) (fun G42 => some G42))
def fX9_pays (q0 : Nat) (x1 : Int32) (G : Mem) : Option (Mem) := (if x1 ≤ (G (q0 + 1) 3) then jX9_pays_20 q0 x1 x1 G else jX9_pays_20 q0 x1 (G (q0 + 1) 3) G)
def jX9_passesOne_116 (rec68 : (Int32 × Int32 × Mem) → Option (Int32 × Mem)) (q0 : Nat) (x1 : Int32) (x2 : Int32) (y0 : Int32) (G : Mem) : Option (Int32 × Mem) := bv (fX9_pays q0 y0 G) (fun G119 => rec68 ((x1 + y0), (x2 + 1), G119))
def jX9_passesOne_115 (rec68 : (Int32 × Int32 × Mem) → Option (Int32 × Mem)) (q0 : Nat) (x1 : Int32) (x2 : Int32) (G : Mem) : Option (Int32 × Mem) := jX9_passesOne_116 rec68 q0 x1 x2 0 G
def bX9_passesOne_68 (q0 : Nat) (rec68 : (Int32 × Int32 × Mem) → Option (Int32 × Mem)) (x1 : Int32) (x2 : Int32) (G : Mem) : Option (Int32 × Mem) := (if 6 ≤ x2 then lt (mset G (q0 + 1) 6 ((G (q0 + 1) 6) + x1)) (fun G142 => some (x1, G142)) else bd (fX9_con q0 x2 0 G) (fun r77 G77 => (if r77 = 1 then bd (fX9_con q0 x2 2 G77) (fun r87 G87 => (if (G87 (q0 + 1) 0) ≤ r87 then jX9_passesOne_115 rec68 q0 x1 x2 G87 else bd (fX9_con q0 x2 3 G87) (fun r102 G102 => bd (fX9_ofKind q0 x2 0 G102) (fun r108 G108 => jX9_passesOne_116 rec68 q0 x1 x2 (r102 * r108) G108)))) else jX9_passesOne_115 rec68 q0 x1 x2 G77)))
def FX9_passesOne_68 (q0 : Nat) : ((Int32 × Int32 × Mem) → Option (Int32 × Mem)) → (Int32 × Int32 × Mem) → Option (Int32 × Mem) := fun rec x => bX9_passesOne_68 q0 rec x.1 x.2.1 x.2.2
def bX9_passesOne_35 (rec27 : (Int32 × Mem) → Option (Int32 × Mem)) (q0 : Nat) (x1 : Int32) (x2 : Int32) (rec35 : (Int32 × Mem) → Option (Int32 × Mem)) (x3 : Int32) (G : Mem) : Option (Int32 × Mem) := ix (12 + x2) 668 ((if (G (q0 + 1) (12 + x2).toNatClampNeg) ≤ x3 then rec27 ((x2 + 1), G) else bv (fX9_grows q0 x2 x3 G) (fun G51 => rec35 ((x3 + 1), G51))))
def FX9_passesOne_35 (rec27 : (Int32 × Mem) → Option (Int32 × Mem)) (q0 : Nat) (x1 : Int32) (x2 : Int32) : ((Int32 × Mem) → Option (Int32 × Mem)) → (Int32 × Mem) → Option (Int32 × Mem) := fun rec x => bX9_passesOne_35 rec27 q0 x1 x2 rec x.1 x.2
def bX9_passesOne_27 (q0 : Nat) (x1 : Int32) (rec27 : (Int32 × Mem) → Option (Int32 × Mem)) (x2 : Int32) (G : Mem) : Option (Int32 × Mem) := (if 6 ≤ x2 then itr FU (FX9_passesOne_68 q0) (x1, 0, G) else itr FU (FX9_passesOne_35 rec27 q0 x1 x2) (0, G))
def FX9_passesOne_27 (q0 : Nat) (x1 : Int32) : ((Int32 × Mem) → Option (Int32 × Mem)) → (Int32 × Mem) → Option (Int32 × Mem) := fun rec x => bX9_passesOne_27 q0 x1 rec x.1 x.2
def fX9_passesOne (q0 : Nat) (G : Mem) : Option (Int32 × Mem) := lt (mset G (q0 + 1) 0 ((G (q0 + 1) 0) + 1)) (fun G9 => lt (mset G9 (q0 + 1) 1 (G9 (q0 + 1) 11)) (fun G22 => itr FU (FX9_passesOne_27 q0 0) (0, G22)))
def bX9_pass_37 (q0 : Nat) (x1 : Int32) (rec37 : (Int32 × Int32 × Mem) → Option (Int32 × Mem)) (x2 : Int32) (x3 : Int32) (G : Mem) : Option (Int32 × Mem) := (if x1 ≤ x3 then bd (fX9_acted q0 x2 G) (fun r57 G57 => some (r57, G57)) else bd (fX9_passesOne q0 G) (fun r44 G44 => rec37 ((x2 + r44), (x3 + 1), G44)))
def FX9_pass_37 (q0 : Nat) (x1 : Int32) : ((Int32 × Int32 × Mem) → Option (Int32 × Mem)) → (Int32 × Int32 × Mem) → Option (Int32 × Mem) := fun rec x => bX9_pass_37 q0 x1 rec x.1 x.2.1 x.2.2
def fX9_pass (q0 : Nat) (x1 : Int32) (G : Mem) : Option (Int32 × Mem) := bd (fX9_in x1 1 60 G) (fun r4 G4 => (if r4 = 0 then some ((-1), G4) else (if ((G4 (q0 + 1) 0) + x1) ≤ 1000 then bv (fX9_keeps q0 G4) (fun G30 => itr FU (FX9_pass_37 q0 x1) (0, 0, G30)) else some ((-3), G4))))
def jX9_set_97 (q0 : Nat) (x3 : Int32) (y0 : Int32) (y1 : Int32) (z2 : Nat) (G : Mem) : Option (Int32 × Mem) := ix y1 668 (lt (mset G z2 y1.toNatClampNeg y0) (fun G97 => bd (fX9_acted q0 x3 G97) (fun r100 G100 => some (r100, G100))))
def jX9_set_32 (q0 : Nat) (x1 : Int32) (x2 : Int32) (y0 : Int32) (y1 : Int32) (y2 : Int32) (G : Mem) : Option (Int32 × Mem) := bd (fX9_in y2 y1 y0 G) (fun r32 G32 => (if r32 = 0 then some ((-1), G32) else bv (fX9_keeps q0 G32) (fun G41 => ix (9 + x1) 668 (ix (9 + x1) 668 (lt (mset G41 (q0 + 1) (9 + x1).toNatClampNeg x2) (fun G63 => (if x1 = 2 then (if 0 ≤ (((G63 (q0 + 1) 1) + x2) - (G41 (q0 + 1) (9 + x1).toNatClampNeg)) then jX9_set_97 q0 (G41 (q0 + 1) (9 + x1).toNatClampNeg) (((G63 (q0 + 1) 1) + x2) - (G41 (q0 + 1) (9 + x1).toNatClampNeg)) 1 (q0 + 1) G63 else jX9_set_97 q0 (G41 (q0 + 1) (9 + x1).toNatClampNeg) 0 1 (q0 + 1) G63) else bd (fX9_acted q0 (G41 (q0 + 1) (9 + x1).toNatClampNeg) G63) (fun r100 G100 => some (r100, G100)))))))))
def jX9_set_20 (q0 : Nat) (x1 : Int32) (x2 : Int32) (y0 : Int32) (y1 : Int32) (G : Mem) : Option (Int32 × Mem) := (if x1 = 2 then jX9_set_32 q0 x1 x2 100 y0 y1 G else jX9_set_32 q0 x1 x2 51 y0 y1 G)
def fX9_set (q0 : Nat) (x1 : Int32) (x2 : Int32) (G : Mem) : Option (Int32 × Mem) := bd (fX9_in x1 0 2 G) (fun r3 G3 => (if r3 = 0 then some ((-1), G3) else (if x1 = 2 then jX9_set_20 q0 x1 x2 1 x2 G3 else jX9_set_20 q0 x1 x2 0 x2 G3)))
def fX9_contract (q0 : Nat) (x1 : Int32) (x2 : Int32) (x3 : Int32) (x4 : Int32) (G : Mem) : Option (Int32 × Mem) := bd (fX9_isField x1 G) (fun r1 G1 => (if r1 = 0 then some ((-1), G1) else bd (fX9_in x2 0 20 G1) (fun r11 G11 => (if r11 = 0 then some ((-1), G11) else bd (fX9_in x3 0 100 G11) (fun r21 G21 => (if r21 = 0 then some ((-1), G21) else bd (fX9_in x4 0 9 G21) (fun r32 G32 => (if r32 = 0 then some ((-1), G32) else bd (fX9_con q0 x1 0 G32) (fun r43 G43 => (if r43 = 1 then some ((-2), G43) else bd (fX9_ofKind q0 x1 0 G43) (fun r53 G53 => (if r53 = 0 then some ((-2), G53) else bv (fX9_keeps q0 G53) (fun G63 => ix (18 + (4 * x1)) 668 (lt (mset G63 (q0 + 1) (18 + (4 * x1)).toNatClampNeg 1) (fun G81 => ix ((18 + (4 * x1)) + 1) 668 (lt (mset G81 (q0 + 1) ((18 + (4 * x1)) + 1).toNatClampNeg x2) (fun G91 => ix ((18 + (4 * x1)) + 2) 668 (lt (mset G91 (q0 + 1) ((18 + (4 * x1)) + 2).toNatClampNeg ((G91 (q0 + 1) 0) + x3)) (fun G108 => ix ((18 + (4 * x1)) + 3) 668 (lt (mset G108 (q0 + 1) ((18 + (4 * x1)) + 3).toNatClampNeg x4) (fun G119 => bd (fX9_ofKind q0 x1 0 G119) (fun r124 G124 => bd (fX9_acted q0 r124 G124) (fun r127 G127 => some (r127, G127))))))))))))))))))))))))
def bX9_giveBack_41 (q0 : Nat) (x1 : Int32) (x2 : Int32) (rec41 : (Int32 × Mem) → Option (Int32 × Mem)) (x3 : Int32) (G : Mem) : Option (Int32 × Mem) := (if 4 ≤ x3 then bd (fX9_acted q0 x2 G) (fun r68 G68 => some (r68, G68)) else ix ((18 + (4 * x1)) + x3) 668 (lt (mset G (q0 + 1) ((18 + (4 * x1)) + x3).toNatClampNeg 0) (fun G59 => rec41 ((x3 + 1), G59))))
def FX9_giveBack_41 (q0 : Nat) (x1 : Int32) (x2 : Int32) : ((Int32 × Mem) → Option (Int32 × Mem)) → (Int32 × Mem) → Option (Int32 × Mem) := fun rec x => bX9_giveBack_41 q0 x1 x2 rec x.1 x.2
def fX9_giveBack (q0 : Nat) (x1 : Int32) (G : Mem) : Option (Int32 × Mem) := bd (fX9_isField x1 G) (fun r1 G1 => (if r1 = 0 then some ((-1), G1) else bd (fX9_con q0 x1 0 G1) (fun r12 G12 => (if r12 = 0 then some ((-2), G12) else bv (fX9_keeps q0 G12) (fun G22 => bd (fX9_con q0 x1 3 G22) (fun r29 G29 => bv (fX9_pays q0 (5 * r29) G29) (fun G36 => itr FU (FX9_giveBack_41 q0 x1 (5 * r29)) (0, G36))))))))
def jX9_payDebt_55 (q0 : Nat) (y0 : Int32) (G : Mem) : Option (Int32 × Mem) := lt (mset G (q0 + 1) 4 ((G (q0 + 1) 4) - y0)) (fun G65 => lt (mset G65 (q0 + 1) 3 ((G65 (q0 + 1) 3) - y0)) (fun G75 => bd (fX9_acted q0 y0 G75) (fun r78 G78 => some (r78, G78))))
def fX9_payDebt (q0 : Nat) (G : Mem) : Option (Int32 × Mem) := (if (G (q0 + 1) 4) = 0 then some ((-2), G) else (if (G (q0 + 1) 3) = 0 then some ((-2), G) else bv (fX9_keeps q0 G) (fun G22 => (if (G22 (q0 + 1) 3) ≤ (G22 (q0 + 1) 4) then jX9_payDebt_55 q0 (G22 (q0 + 1) 3) G22 else jX9_payDebt_55 q0 (G22 (q0 + 1) 4) G22))))
def bX9_take_34 (q0 : Nat) (x2 : Int32) (rec34 : (Int32 × Mem) → Option (Int32 × Mem)) (x3 : Int32) (G : Mem) : Option (Int32 × Mem) := (if 222 ≤ x3 then bd (fX9_acted q0 (G (q0 + 1) 0) G) (fun r70 G70 => some (r70, G70)) else ix x3 668 (ix ((x2 + 1) + x3) 668 (lt (mset G (q0 + 1) ((x2 + 1) + x3).toNatClampNeg (G (q0 + 1) x3.toNatClampNeg)) (fun G56 => rec34 ((x3 + 1), G56)))))
def FX9_take_34 (q0 : Nat) (x2 : Int32) : ((Int32 × Mem) → Option (Int32 × Mem)) → (Int32 × Mem) → Option (Int32 × Mem) := fun rec x => bX9_take_34 q0 x2 rec x.1 x.2
def fX9_take (q0 : Nat) (x1 : Int32) (G : Mem) : Option (Int32 × Mem) := bd (fX9_in x1 0 1 G) (fun r3 G3 => (if r3 = 0 then some ((-1), G3) else bv (fX9_keeps q0 G3) (fun G12 => ix (222 + (223 * x1)) 668 (lt (mset G12 (q0 + 1) (222 + (223 * x1)).toNatClampNeg 1) (fun G31 => itr FU (FX9_take_34 q0 (222 + (223 * x1))) (0, G31))))))
def bX9_restore_39 (q0 : Nat) (x2 : Int32) (rec39 : (Int32 × Mem) → Option (Int32 × Mem)) (x3 : Int32) (G : Mem) : Option (Int32 × Mem) := (if 222 ≤ x3 then bd (fX9_acted q0 (G (q0 + 1) 0) G) (fun r75 G75 => some (r75, G75)) else ix ((x2 + 1) + x3) 668 (ix x3 668 (lt (mset G (q0 + 1) x3.toNatClampNeg (G (q0 + 1) ((x2 + 1) + x3).toNatClampNeg)) (fun G61 => rec39 ((x3 + 1), G61)))))
def FX9_restore_39 (q0 : Nat) (x2 : Int32) : ((Int32 × Mem) → Option (Int32 × Mem)) → (Int32 × Mem) → Option (Int32 × Mem) := fun rec x => bX9_restore_39 q0 x2 rec x.1 x.2
def fX9_restore (q0 : Nat) (x1 : Int32) (G : Mem) : Option (Int32 × Mem) := bd (fX9_in x1 0 1 G) (fun r3 G3 => (if r3 = 0 then some ((-1), G3) else ix (222 + (223 * x1)) 668 ((if (G3 (q0 + 1) (222 + (223 * x1)).toNatClampNeg) = 0 then some ((-2), G3) else bv (fX9_keeps q0 G3) (fun G34 => itr FU (FX9_restore_39 q0 (222 + (223 * x1))) (0, G34))))))
def bX9_undo_22 (q0 : Nat) (rec22 : (Int32 × Mem) → Option (Int32 × Mem)) (x1 : Int32) (G : Mem) : Option (Int32 × Mem) := (if 668 ≤ x1 then some ((G q0 4), G) else ix ((668 * (G q0 4)) + x1) 3340 (ix x1 668 (lt (mset G (q0 + 1) x1.toNatClampNeg (G (q0 + 2) ((668 * (G q0 4)) + x1).toNatClampNeg)) (fun G49 => rec22 ((x1 + 1), G49)))))
def FX9_undo_22 (q0 : Nat) : ((Int32 × Mem) → Option (Int32 × Mem)) → (Int32 × Mem) → Option (Int32 × Mem) := fun rec x => bX9_undo_22 q0 rec x.1 x.2
def fX9_undo (q0 : Nat) (G : Mem) : Option (Int32 × Mem) := (if (G q0 4) = 0 then some ((-2), G) else lt (mset G q0 4 ((G q0 4) - 1)) (fun G17 => itr FU (FX9_undo_22 q0) (0, G17)))
def fX9_append (q0 : Nat) (x1 : Int32) (G : Mem) : Option (Int32 × Mem) := bd (fX9_in x1 1 255 G) (fun r5 G5 => (if r5 = 0 then some ((-1), G5) else (if (G5 q0 6) = 80 then some ((-3), G5) else ix (G5 q0 6) 80 (lt (mset G5 (q0 + 5) (G5 q0 6).toNatClampNeg x1) (fun G34 => lt (mset G34 q0 6 ((G34 q0 6) + 1)) (fun G42 => some ((G42 q0 6), G42)))))))
def fX9_clearText (q0 : Nat) (G : Mem) : Option (Int32 × Mem) := lt (mset G q0 6 0) (fun G7 => some ((G q0 6), G7))
def fX9_sign (q0 : Nat) (G : Mem) : Option (Int32 × Mem) := (if (G q0 6) ≤ (G q0 7) then some ((-1), G) else ix (G q0 7) 80 (some ((G (q0 + 5) (G q0 7).toNatClampNeg), G)))
def bX9_readsPart_182 (q0 : Nat) (rec182 : Mem → Option (Int32 × Mem)) (G : Mem) : Option (Int32 × Mem) := bd (fX9_sign q0 G) (fun r183 G183 => bd (fX9_in r183 48 57 G183) (fun r190 G190 => (if r190 = 0 then some (1, G190) else bd (fX9_sign q0 G190) (fun r204 G204 => (if (((10 * (G190 q0 10)) + r204) - 48) ≤ 30 then bd (fX9_sign q0 G204) (fun r227 G227 => lt (mset G227 q0 10 (((10 * (G204 q0 10)) + r227) - 48)) (fun G234 => lt (mset G234 q0 7 ((G234 q0 7) + 1)) (fun G244 => rec182 (G244)))) else some (0, G204))))))
def FX9_readsPart_182 (q0 : Nat) : (Mem → Option (Int32 × Mem)) → Mem → Option (Int32 × Mem) := fun rec x => bX9_readsPart_182 q0 rec x
def jX9_readsPart_124 (q0 : Nat) (G : Mem) : Option (Int32 × Mem) := bd (fX9_sign q0 G) (fun r125 G125 => (if r125 = 42 then lt (mset G125 q0 7 ((G125 q0 7) + 1)) (fun G142 => bd (fX9_sign q0 G142) (fun r146 G146 => bd (fX9_in r146 49 57 G146) (fun r153 G153 => (if r153 = 0 then some (0, G153) else bd (fX9_sign q0 G153) (fun r163 G163 => lt (mset G163 q0 10 (r163 - 48)) (fun G169 => lt (mset G169 q0 7 ((G169 q0 7) + 1)) (fun G179 => itr FU (FX9_readsPart_182 q0) (G179)))))))) else some (1, G125)))
def jX9_readsPart_47 (q0 : Nat) (y0 : Int32) (z1 : Nat) (G : Mem) : Option (Int32 × Mem) := lt (mset G z1 8 y0) (fun G47 => lt (mset G47 q0 9 0) (fun G52 => lt (mset G52 q0 10 1) (fun G57 => (if 0 ≤ (G57 q0 8) then lt (mset G57 q0 7 ((G57 q0 7) + 1)) (fun G76 => (if 2 ≤ (G76 q0 8) then jX9_readsPart_124 q0 G76 else bd (fX9_sign q0 G76) (fun r88 G88 => bd (fX9_in r88 49 57 G88) (fun r95 G95 => (if r95 = 0 then some (0, G95) else bd (fX9_sign q0 G95) (fun r105 G105 => lt (mset G105 q0 9 (r105 - 48)) (fun G111 => lt (mset G111 q0 7 ((G111 q0 7) + 1)) (fun G121 => jX9_readsPart_124 q0 G121)))))))) else some (0, G57)))))
def fX9_readsPart (q0 : Nat) (G : Mem) : Option (Int32 × Mem) := bd (fX9_sign q0 G) (fun r1 G1 => (if r1 = 116 then jX9_readsPart_47 q0 0 q0 G1 else (if r1 = 108 then jX9_readsPart_47 q0 1 q0 G1 else (if r1 = 103 then jX9_readsPart_47 q0 2 q0 G1 else (if r1 = 112 then jX9_readsPart_47 q0 3 q0 G1 else jX9_readsPart_47 q0 (-1) q0 G1)))))
def jX9_chains_50 (x1 : Int32) (x2 : Int32) (G : Mem) : Option (Int32 × Mem) := (if x2 = 0 then some ((-1), G) else some (x1, G))
def bX9_chains_20 (q0 : Nat) (rec20 : (Int32 × Int32 × Mem) → Option (Int32 × Mem)) (x1 : Int32) (x2 : Int32) (G : Mem) : Option (Int32 × Mem) := (if x2 = 0 then jX9_chains_50 x1 x2 G else (if (G q0 6) ≤ (G q0 7) then jX9_chains_50 x1 x2 G else bd (fX9_readsPart q0 G) (fun r36 G36 => rec20 ((x1 + (G36 q0 10)), r36, G36))))
def FX9_chains_20 (q0 : Nat) : ((Int32 × Int32 × Mem) → Option (Int32 × Mem)) → (Int32 × Int32 × Mem) → Option (Int32 × Mem) := fun rec x => bX9_chains_20 q0 rec x.1 x.2.1 x.2.2
def fX9_chains (q0 : Nat) (G : Mem) : Option (Int32 × Mem) := lt (mset G q0 7 0) (fun G2 => (if (G2 q0 6) ≤ 0 then itr FU (FX9_chains_20 q0) (0, 0, G2) else itr FU (FX9_chains_20 q0) (0, 1, G2)))
def bX9_read_127 (q0 : Nat) (x1 : Int32) (x2 : Int32) (rec127 : (Int32 × Mem) → Option (Int32 × Mem)) (x3 : Int32) (G : Mem) : Option (Int32 × Mem) := (if 30 ≤ x3 then lt (mset G q0 6 0) (fun G156 => bv (fX9_ends q0 x1 G156) (fun G161 => bd (fX9_acted q0 x2 G161) (fun r166 G166 => some (r166, G166)))) else ix ((42 + (30 * x1)) + x3) 668 (lt (mset G (q0 + 1) ((42 + (30 * x1)) + x3).toNatClampNeg 0) (fun G147 => rec127 ((x3 + 1), G147))))
def FX9_read_127 (q0 : Nat) (x1 : Int32) (x2 : Int32) : ((Int32 × Mem) → Option (Int32 × Mem)) → (Int32 × Mem) → Option (Int32 × Mem) := fun rec x => bX9_read_127 q0 x1 x2 rec x.1 x.2
def bX9_read_73 (rec55 : Mem → Option (Int32 × Mem)) (q0 : Nat) (x1 : Int32) (x2 : Int32) (rec73 : (Int32 × Mem) → Option (Int32 × Mem)) (x3 : Int32) (G : Mem) : Option (Int32 × Mem) := (if (G q0 10) ≤ x3 then rec55 (G) else ix (12 + x1) 668 (bv (fX9_lays q0 x1 (G (q0 + 1) (12 + x1).toNatClampNeg) (G q0 8) (G q0 9) G) (fun G100 => ix (12 + x1) 668 (ix (12 + x1) 668 (lt (mset G100 (q0 + 1) (12 + x1).toNatClampNeg ((G100 (q0 + 1) (12 + x1).toNatClampNeg) + 1)) (fun G115 => rec73 ((x3 + 1), G115)))))))
def FX9_read_73 (rec55 : Mem → Option (Int32 × Mem)) (q0 : Nat) (x1 : Int32) (x2 : Int32) : ((Int32 × Mem) → Option (Int32 × Mem)) → (Int32 × Mem) → Option (Int32 × Mem) := fun rec x => bX9_read_73 rec55 q0 x1 x2 rec x.1 x.2
def bX9_read_55 (q0 : Nat) (x1 : Int32) (x2 : Int32) (rec55 : Mem → Option (Int32 × Mem)) (G : Mem) : Option (Int32 × Mem) := (if (G q0 6) ≤ (G q0 7) then itr FU (FX9_read_127 q0 x1 x2) (x2, G) else bd (fX9_readsPart q0 G) (fun r67 G67 => itr FU (FX9_read_73 rec55 q0 x1 x2) (0, G67)))
def FX9_read_55 (q0 : Nat) (x1 : Int32) (x2 : Int32) : (Mem → Option (Int32 × Mem)) → Mem → Option (Int32 × Mem) := fun rec x => bX9_read_55 q0 x1 x2 rec x
def fX9_read (q0 : Nat) (x1 : Int32) (G : Mem) : Option (Int32 × Mem) := bd (fX9_isField x1 G) (fun r1 G1 => (if r1 = 0 then some ((-1), G1) else bd (fX9_chains q0 G1) (fun r10 G10 => (if 0 ≤ r10 then (if r10 ≤ 30 then bv (fX9_keeps q0 G10) (fun G37 => ix (12 + x1) 668 (lt (mset G37 (q0 + 1) (12 + x1).toNatClampNeg 0) (fun G49 => lt (mset G49 q0 7 0) (fun G52 => itr FU (FX9_read_55 q0 x1 r10) (G52))))) else some ((-3), G10)) else some (((-1000) - (G10 q0 7)), G10)))))
def bX9_contracts_4 (q0 : Nat) (rec4 : (Int32 × Int32 × Mem) → Option (Int32 × Mem)) (x1 : Int32) (x2 : Int32) (G : Mem) : Option (Int32 × Mem) := (if 6 ≤ x2 then some (x1, G) else bd (fX9_con q0 x2 0 G) (fun r14 G14 => rec4 ((x1 + r14), (x2 + 1), G14)))
def FX9_contracts_4 (q0 : Nat) : ((Int32 × Int32 × Mem) → Option (Int32 × Mem)) → (Int32 × Int32 × Mem) → Option (Int32 × Mem) := fun rec x => bX9_contracts_4 q0 rec x.1 x.2.1 x.2.2
def fX9_contracts (q0 : Nat) (G : Mem) : Option (Int32 × Mem) := itr FU (FX9_contracts_4 q0) (0, 0, G)
def fX9_count (q0 : Nat) (x1 : Int32) (G : Mem) : Option (Int32 × Mem) := (if x1 = 0 then some ((G (q0 + 1) 0), G) else (if x1 = 1 then some (((G (q0 + 1) 0) - (G (q0 + 1) 0) / 52 * 52), G) else (if x1 = 2 then bd (fX9_isClosed q0 (G (q0 + 1) 0) G) (fun r112 G112 => (if r112 = 0 then some (0, G112) else some (1, G112))) else (if x1 = 3 then ix ((1 + x1) - 3) 668 (some ((G (q0 + 1) ((1 + x1) - 3).toNatClampNeg), G)) else (if x1 = 4 then ix ((1 + x1) - 3) 668 (some ((G (q0 + 1) ((1 + x1) - 3).toNatClampNeg), G)) else (if x1 = 5 then ix ((1 + x1) - 3) 668 (some ((G (q0 + 1) ((1 + x1) - 3).toNatClampNeg), G)) else (if x1 = 6 then ix ((1 + x1) - 3) 668 (some ((G (q0 + 1) ((1 + x1) - 3).toNatClampNeg), G)) else (if x1 = 7 then ix ((1 + x1) - 3) 668 (some ((G (q0 + 1) ((1 + x1) - 3).toNatClampNeg), G)) else (if x1 = 8 then ix ((1 + x1) - 3) 668 (some ((G (q0 + 1) ((1 + x1) - 3).toNatClampNeg), G)) else (if x1 = 9 then bd (fX9_contracts q0 G) (fun r136 G136 => some (r136, G136)) else (if x1 = 10 then ix ((7 + x1) - 10) 668 (some ((G (q0 + 1) ((7 + x1) - 10).toNatClampNeg), G)) else (if x1 = 11 then ix ((7 + x1) - 10) 668 (some ((G (q0 + 1) ((7 + x1) - 10).toNatClampNeg), G)) else (if x1 = 12 then ix ((7 + x1) - 10) 668 (some ((G (q0 + 1) ((7 + x1) - 10).toNatClampNeg), G)) else (if x1 = 13 then ix ((7 + x1) - 10) 668 (some ((G (q0 + 1) ((7 + x1) - 10).toNatClampNeg), G)) else (if x1 = 14 then ix ((7 + x1) - 10) 668 (some ((G (q0 + 1) ((7 + x1) - 10).toNatClampNeg), G)) else (if x1 = 15 then some (((G (q0 + 1) 222) + (G (q0 + 1) 445)), G) else (if x1 = 16 then some ((G q0 4), G) else (if x1 = 17 then some ((G q0 6), G) else some ((-1), G)))))))))))))))))))
def jX9_longest_59 (rec7 : (Int32 × Int32 × Int32 × Mem) → Option (Int32 × Mem)) (q0 : Nat) (x1 : Int32) (x2 : Int32) (x3 : Int32) (x4 : Int32) (y0 : Int32) (G : Mem) : Option (Int32 × Mem) := (if y0 ≤ x2 then rec7 (x2, x3, (x4 + 1), G) else rec7 (y0, x3, (x4 + 1), G))
def jX9_longest_39 (rec7 : (Int32 × Int32 × Int32 × Mem) → Option (Int32 × Mem)) (q0 : Nat) (x1 : Int32) (x2 : Int32) (x4 : Int32) (y0 : Int32) (G : Mem) : Option (Int32 × Mem) := (if y0 = 0 then jX9_longest_59 rec7 q0 x1 x2 y0 x4 0 G else jX9_longest_59 rec7 q0 x1 x2 y0 x4 ((100 * y0) - ((x4 + 1) - y0)) G)
def bX9_longest_7 (q0 : Nat) (x1 : Int32) (rec7 : (Int32 × Int32 × Int32 × Mem) → Option (Int32 × Mem)) (x2 : Int32) (x3 : Int32) (x4 : Int32) (G : Mem) : Option (Int32 × Mem) := ix (12 + x1) 668 ((if (G (q0 + 1) (12 + x1).toNatClampNeg) ≤ x4 then some (x2, G) else bd (fX9_kindOf q0 x1 x4 G) (fun r25 G25 => (if r25 = 1 then jX9_longest_39 rec7 q0 x1 x2 x4 (x3 + 1) G25 else jX9_longest_39 rec7 q0 x1 x2 x4 0 G25))))
def FX9_longest_7 (q0 : Nat) (x1 : Int32) : ((Int32 × Int32 × Int32 × Mem) → Option (Int32 × Mem)) → (Int32 × Int32 × Int32 × Mem) → Option (Int32 × Mem) := fun rec x => bX9_longest_7 q0 x1 rec x.1 x.2.1 x.2.2.1 x.2.2.2
def fX9_longest (q0 : Nat) (x1 : Int32) (G : Mem) : Option (Int32 × Mem) := itr FU (FX9_longest_7 q0 x1) (0, 0, 0, G)
def fX9_field (q0 : Nat) (x1 : Int32) (x2 : Int32) (G : Mem) : Option (Int32 × Mem) := bd (fX9_isField x1 G) (fun r1 G1 => (if r1 = 0 then some ((-1), G1) else bd (fX9_in x2 0 10 G1) (fun r11 G11 => (if r11 = 0 then some ((-1), G11) else bd (fX9_longest q0 x1 G11) (fun r21 G21 => (if x2 = 0 then ix (12 + x1) 668 (some ((G21 (q0 + 1) (12 + x1).toNatClampNeg), G21)) else (if x2 = 1 then bd (fX9_ofKind q0 x1 (x2 - 1) G21) (fun r95 G95 => some (r95, G95)) else (if x2 = 2 then bd (fX9_ofKind q0 x1 (x2 - 1) G21) (fun r95 G95 => some (r95, G95)) else (if x2 = 3 then bd (fX9_ofKind q0 x1 (x2 - 1) G21) (fun r95 G95 => some (r95, G95)) else (if x2 = 4 then bd (fX9_ofKind q0 x1 (x2 - 1) G21) (fun r95 G95 => some (r95, G95)) else (if x2 = 5 then some (((r21 + 99) / 100), G21) else (if x2 = 6 then (if ((r21 + 99) / 100) = 0 then some ((-9), G21) else some (((100 * ((r21 + 99) / 100)) - r21), G21)) else (if x2 = 7 then bd (fX9_con q0 x1 0 G21) (fun r123 G123 => some (r123, G123)) else bd (fX9_con q0 x1 0 G21) (fun r130 G130 => (if r130 = 1 then bd (fX9_con q0 x1 (x2 - 7) G130) (fun r143 G143 => some (r143, G143)) else some ((-9), G130))))))))))))))))
def fX9_chain (q0 : Nat) (x1 : Int32) (x2 : Int32) (x3 : Int32) (G : Mem) : Option (Int32 × Mem) := bd (fX9_isChain q0 x1 x2 G) (fun r3 G3 => (if r3 = 0 then some ((-1), G3) else bd (fX9_in x3 0 2 G3) (fun r12 G12 => (if r12 = 0 then some ((-1), G12) else (if x3 = 0 then bd (fX9_kindOf q0 x1 x2 G12) (fun r27 G27 => some (r27, G27)) else (if x3 = 1 then bd (fX9_thickness q0 x1 x2 G12) (fun r41 G41 => some (r41, G41)) else bd (fX9_age q0 x1 x2 G12) (fun r50 G50 => some (r50, G50))))))))
def fX9_takes (q0 : Nat) (x1 : Int32) (x2 : Int32) (G : Mem) : Option (Int32 × Mem) := bd (fX9_thickness q0 x1 x2 G) (fun r3 G3 => bd (fX9_kindOf q0 x1 x2 G3) (fun r10 G10 => (if r10 = 0 then (if r3 < 2 then some (0, G10) else some (r3, G10)) else some (0, G10))))
def bX9_workOf_4 (q0 : Nat) (x1 : Int32) (rec4 : (Int32 × Int32 × Mem) → Option (Int32 × Mem)) (x2 : Int32) (x3 : Int32) (G : Mem) : Option (Int32 × Mem) := ix (12 + x1) 668 ((if (G (q0 + 1) (12 + x1).toNatClampNeg) ≤ x3 then some (x2, G) else bd (fX9_takes q0 x1 x3 G) (fun r21 G21 => rec4 ((x2 + r21), (x3 + 1), G21))))
def FX9_workOf_4 (q0 : Nat) (x1 : Int32) : ((Int32 × Int32 × Mem) → Option (Int32 × Mem)) → (Int32 × Int32 × Mem) → Option (Int32 × Mem) := fun rec x => bX9_workOf_4 q0 x1 rec x.1 x.2.1 x.2.2
def fX9_workOf (q0 : Nat) (x1 : Int32) (G : Mem) : Option (Int32 × Mem) := itr FU (FX9_workOf_4 q0 x1) (0, 0, G)
def jX9_toLay_53 (rec23 : (Int32 × Int32 × Mem) → Option (Int32 × Mem)) (q0 : Nat) (x1 : Int32) (x2 : Int32) (x4 : Int32) (y0 : Int32) (y1 : Int32) (G : Mem) : Option (Int32 × Mem) := rec23 ((y1 + y0), (x4 + 1), G)
def bX9_toLay_23 (q0 : Nat) (x1 : Int32) (x2 : Int32) (rec23 : (Int32 × Int32 × Mem) → Option (Int32 × Mem)) (x3 : Int32) (x4 : Int32) (G : Mem) : Option (Int32 × Mem) := ix (12 + x1) 668 ((if (G (q0 + 1) (12 + x1).toNatClampNeg) ≤ x4 then (if x2 = 0 then bd (fX9_workOf q0 x1 G) (fun r67 G67 => some (r67, G67)) else some ((2 * x3), G)) else bd (fX9_takes q0 x1 x4 G) (fun r42 G42 => (if r42 ≤ 0 then jX9_toLay_53 rec23 q0 x1 x2 x4 0 x3 G42 else jX9_toLay_53 rec23 q0 x1 x2 x4 1 x3 G42))))
def FX9_toLay_23 (q0 : Nat) (x1 : Int32) (x2 : Int32) : ((Int32 × Int32 × Mem) → Option (Int32 × Mem)) → (Int32 × Int32 × Mem) → Option (Int32 × Mem) := fun rec x => bX9_toLay_23 q0 x1 x2 rec x.1 x.2.1 x.2.2
def fX9_toLay (q0 : Nat) (x1 : Int32) (x2 : Int32) (G : Mem) : Option (Int32 × Mem) := bd (fX9_isField x1 G) (fun r1 G1 => (if r1 = 0 then some ((-1), G1) else bd (fX9_in x2 0 1 G1) (fun r10 G10 => (if r10 = 0 then some ((-1), G10) else itr FU (FX9_toLay_23 q0 x1 x2) (0, 0, G10)))))
def bX9_stakesIn_34 (rec13 : (Int32 × Int32 × Mem) → Option (Int32 × Mem)) (q0 : Nat) (x1 : Int32) (x3 : Int32) (rec34 : (Int32 × Int32 × Mem) → Option (Int32 × Mem)) (x2 : Int32) (x4 : Int32) (G : Mem) : Option (Int32 × Mem) := bd (fX9_kindOf q0 x1 x3 G) (fun r37 G37 => (if r37 = 0 then (if x4 < 3 then rec13 (x2, (x3 + 1), G37) else rec34 ((x2 + x4), (x4 + Int32.ofInt (-2)), G37)) else rec13 (x2, (x3 + 1), G37)))
def FX9_stakesIn_34 (rec13 : (Int32 × Int32 × Mem) → Option (Int32 × Mem)) (q0 : Nat) (x1 : Int32) (x3 : Int32) : ((Int32 × Int32 × Mem) → Option (Int32 × Mem)) → (Int32 × Int32 × Mem) → Option (Int32 × Mem) := fun rec x => bX9_stakesIn_34 rec13 q0 x1 x3 rec x.1 x.2.1 x.2.2
def bX9_stakesIn_13 (q0 : Nat) (x1 : Int32) (rec13 : (Int32 × Int32 × Mem) → Option (Int32 × Mem)) (x2 : Int32) (x3 : Int32) (G : Mem) : Option (Int32 × Mem) := ix (12 + x1) 668 ((if (G (q0 + 1) (12 + x1).toNatClampNeg) ≤ x3 then some (x2, G) else bd (fX9_thickness q0 x1 x3 G) (fun r29 G29 => itr FU (FX9_stakesIn_34 rec13 q0 x1 x3) (x2, r29, G29))))
def FX9_stakesIn_13 (q0 : Nat) (x1 : Int32) : ((Int32 × Int32 × Mem) → Option (Int32 × Mem)) → (Int32 × Int32 × Mem) → Option (Int32 × Mem) := fun rec x => bX9_stakesIn_13 q0 x1 rec x.1 x.2.1 x.2.2
def fX9_stakesIn (q0 : Nat) (x1 : Int32) (G : Mem) : Option (Int32 × Mem) := bd (fX9_isField x1 G) (fun r1 G1 => (if r1 = 0 then some ((-1), G1) else itr FU (FX9_stakesIn_13 q0 x1) (0, 0, G1)))
def jX9_doneIn_122 (rec38 : (Int32 × Int32 × Int32 × Mem) → Option (Int32 × Mem)) (q0 : Nat) (x1 : Int32) (x2 : Int32) (x3 : Int32) (x4 : Int32) (x5 : Int32) (G : Mem) : Option (Int32 × Mem) := rec38 (x2, (x3 - x5), (x4 + 1), G)
def bX9_doneIn_76 (rec38 : (Int32 × Int32 × Int32 × Mem) → Option (Int32 × Mem)) (q0 : Nat) (x1 : Int32) (x4 : Int32) (x5 : Int32) (rec76 : (Int32 × Int32 × Mem) → Option (Int32 × Mem)) (x2 : Int32) (x3 : Int32) (G : Mem) : Option (Int32 × Mem) := (if x5 ≤ x3 then jX9_doneIn_122 rec38 q0 x1 x2 x3 x4 x5 G else (if 200 < x2 then jX9_doneIn_122 rec38 q0 x1 x2 x3 x4 x5 G else bd (fX9_isClosed q0 ((G (q0 + 1) 0) + (x2 + 1)) G) (fun r101 G101 => (if r101 = 0 then rec76 ((x2 + 1), (G101 (q0 + 1) 11), G101) else rec76 ((x2 + 1), 0, G101)))))
def FX9_doneIn_76 (rec38 : (Int32 × Int32 × Int32 × Mem) → Option (Int32 × Mem)) (q0 : Nat) (x1 : Int32) (x4 : Int32) (x5 : Int32) : ((Int32 × Int32 × Mem) → Option (Int32 × Mem)) → (Int32 × Int32 × Mem) → Option (Int32 × Mem) := fun rec x => bX9_doneIn_76 rec38 q0 x1 x4 x5 rec x.1 x.2.1 x.2.2
def bX9_doneIn_38 (q0 : Nat) (x1 : Int32) (rec38 : (Int32 × Int32 × Int32 × Mem) → Option (Int32 × Mem)) (x2 : Int32) (x3 : Int32) (x4 : Int32) (G : Mem) : Option (Int32 × Mem) := ix (12 + x1) 668 ((if (G (q0 + 1) (12 + x1).toNatClampNeg) ≤ x4 then (if x2 ≤ 200 then some (x2, G) else some ((-9), G)) else bd (fX9_takes q0 x1 x4 G) (fun r56 G56 => (if r56 ≤ (G56 (q0 + 1) 11) then itr FU (FX9_doneIn_76 rec38 q0 x1 x4 r56) (x2, x3, G56) else some ((-9), G56)))))
def FX9_doneIn_38 (q0 : Nat) (x1 : Int32) : ((Int32 × Int32 × Int32 × Mem) → Option (Int32 × Mem)) → (Int32 × Int32 × Int32 × Mem) → Option (Int32 × Mem) := fun rec x => bX9_doneIn_38 q0 x1 rec x.1 x.2.1 x.2.2.1 x.2.2.2
def fX9_doneIn (q0 : Nat) (x1 : Int32) (G : Mem) : Option (Int32 × Mem) := bd (fX9_isField x1 G) (fun r1 G1 => (if r1 = 0 then some ((-1), G1) else bd (fX9_isClosed q0 (G1 (q0 + 1) 0) G1) (fun r18 G18 => (if r18 = 0 then itr FU (FX9_doneIn_38 q0 x1) (0, (G18 (q0 + 1) 1), 0, G18) else itr FU (FX9_doneIn_38 q0 x1) (0, 0, 0, G18)))))
def fX9_weeksOf (q0 : Nat) (x1 : Int32) (G : Mem) : Option (Int32 × Mem) := bd (fX9_workOf q0 x1 G) (fun r2 G2 => nz (G2 (q0 + 1) 11) (some ((((r2 + (G2 (q0 + 1) 11)) - 1) / (G2 (q0 + 1) 11)), G2)))
def jX9_costs_38 (rec10 : (Int32 × Int32 × Mem) → Option (Int32 × Mem)) (q0 : Nat) (x1 : Int32) (x2 : Int32) (x4 : Int32) (y0 : Int32) (y1 : Int32) (G : Mem) : Option (Int32 × Mem) := rec10 ((y1 + y0), (x4 + 1), G)
def bX9_costs_10 (q0 : Nat) (x1 : Int32) (x2 : Int32) (rec10 : (Int32 × Int32 × Mem) → Option (Int32 × Mem)) (x3 : Int32) (x4 : Int32) (G : Mem) : Option (Int32 × Mem) := (if 6 ≤ x4 then bd (fX9_con q0 x1 2 G) (fun r50 G50 => (if (x3 - r50) ≤ 0 then some (0, G50) else bd (fX9_con q0 x1 3 G50) (fun r66 G66 => bd (fX9_ofKind q0 x1 0 G66) (fun r73 G73 => some ((((x3 - r50) * r66) * r73), G73))))) else (if ((x2 >>> (x4 &&& 31)) &&& 1) = 1 then bd (fX9_weeksOf q0 x4 G) (fun r31 G31 => jX9_costs_38 rec10 q0 x1 x2 x4 r31 x3 G31) else jX9_costs_38 rec10 q0 x1 x2 x4 0 x3 G))
def FX9_costs_10 (q0 : Nat) (x1 : Int32) (x2 : Int32) : ((Int32 × Int32 × Mem) → Option (Int32 × Mem)) → (Int32 × Int32 × Mem) → Option (Int32 × Mem) := fun rec x => bX9_costs_10 q0 x1 x2 rec x.1 x.2.1 x.2.2
def fX9_costs (q0 : Nat) (x1 : Int32) (x2 : Int32) (G : Mem) : Option (Int32 × Mem) := itr FU (FX9_costs_10 q0 x1 x2) ((G (q0 + 1) 0), 0, G)
def jX9_bestOrder_143 (rec27 : (Int32 × Int32 × Mem) → Option (Int32 × Mem)) (rec41 : (Int32 × Int32 × Mem) → Option (Int32 × Mem)) (q0 : Nat) (x1 : Int32) (x2 : Int32) (x3 : Int32) (x4 : Int32) (x6 : Int32) (y0 : Int32) (z1 : Nat) (G : Mem) : Option (Int32 × Mem) := ix y0 64 (lt (mset G z1 y0.toNatClampNeg x6) (fun G154 => rec41 (x2, (x4 + 1), G154)))
def jX9_bestOrder_117 (rec27 : (Int32 × Int32 × Mem) → Option (Int32 × Mem)) (rec41 : (Int32 × Int32 × Mem) → Option (Int32 × Mem)) (q0 : Nat) (x1 : Int32) (x3 : Int32) (x4 : Int32) (x6 : Int32) (y0 : Int32) (G : Mem) : Option (Int32 × Mem) := ix x3 64 ((if (G (q0 + 4) x3.toNatClampNeg) < 0 then jX9_bestOrder_143 rec27 rec41 q0 x1 y0 x3 x4 x6 x3 (q0 + 4) G else ix x3 64 ((if (G (q0 + 4) x3.toNatClampNeg) ≤ x6 then ix x3 64 (ix x3 64 (lt (mset G (q0 + 4) x3.toNatClampNeg (G (q0 + 4) x3.toNatClampNeg)) (fun G154 => rec41 (y0, (x4 + 1), G154)))) else jX9_bestOrder_143 rec27 rec41 q0 x1 y0 x3 x4 x6 x3 (q0 + 4) G))))
def jX9_bestOrder_111 (rec27 : (Int32 × Int32 × Mem) → Option (Int32 × Mem)) (rec41 : (Int32 × Int32 × Mem) → Option (Int32 × Mem)) (q0 : Nat) (x1 : Int32) (x3 : Int32) (x4 : Int32) (x6 : Int32) (G : Mem) : Option (Int32 × Mem) := jX9_bestOrder_117 rec27 rec41 q0 x1 x3 x4 x6 x4 G
def bX9_bestOrder_41 (rec27 : (Int32 × Int32 × Mem) → Option (Int32 × Mem)) (q0 : Nat) (x1 : Int32) (x3 : Int32) (rec41 : (Int32 × Int32 × Mem) → Option (Int32 × Mem)) (x2 : Int32) (x4 : Int32) (G : Mem) : Option (Int32 × Mem) := (if 6 ≤ x4 then ix x3 64 ((if 0 ≤ (G (q0 + 4) x3.toNatClampNeg) then ix x3 64 (ix x3 64 (lt (mset G (q0 + 4) x3.toNatClampNeg (G (q0 + 4) x3.toNatClampNeg)) (fun G185 => rec27 (x2, (x3 + Int32.ofInt (-1)), G185)))) else ix x3 64 (lt (mset G (q0 + 4) x3.toNatClampNeg 0) (fun G185 => rec27 (x2, (x3 + Int32.ofInt (-1)), G185))))) else (if (x3 ||| (1 <<< (x4 &&& 31))) = x3 then rec41 (x2, (x4 + 1), G) else bd (fX9_con q0 x4 0 G) (fun r66 G66 => (if r66 = 1 then bd (fX9_costs q0 x4 (x3 ||| (1 <<< (x4 &&& 31))) G66) (fun r78 G78 => ix (x3 ||| (1 <<< (x4 &&& 31))) 64 (ix x3 64 ((if (G78 (q0 + 4) x3.toNatClampNeg) < 0 then jX9_bestOrder_111 rec27 rec41 q0 x1 x3 x4 (r78 + (G78 (q0 + 4) (x3 ||| (1 <<< (x4 &&& 31))).toNatClampNeg)) G78 else ix x3 64 ((if (G78 (q0 + 4) x3.toNatClampNeg) ≤ (r78 + (G78 (q0 + 4) (x3 ||| (1 <<< (x4 &&& 31))).toNatClampNeg)) then jX9_bestOrder_117 rec27 rec41 q0 x1 x3 x4 (r78 + (G78 (q0 + 4) (x3 ||| (1 <<< (x4 &&& 31))).toNatClampNeg)) x2 G78 else jX9_bestOrder_111 rec27 rec41 q0 x1 x3 x4 (r78 + (G78 (q0 + 4) (x3 ||| (1 <<< (x4 &&& 31))).toNatClampNeg)) G78)))))) else rec41 (x2, (x4 + 1), G66)))))
def FX9_bestOrder_41 (rec27 : (Int32 × Int32 × Mem) → Option (Int32 × Mem)) (q0 : Nat) (x1 : Int32) (x3 : Int32) : ((Int32 × Int32 × Mem) → Option (Int32 × Mem)) → (Int32 × Int32 × Mem) → Option (Int32 × Mem) := fun rec x => bX9_bestOrder_41 rec27 q0 x1 x3 rec x.1 x.2.1 x.2.2
def bX9_bestOrder_27 (q0 : Nat) (x1 : Int32) (rec27 : (Int32 × Int32 × Mem) → Option (Int32 × Mem)) (x2 : Int32) (x3 : Int32) (G : Mem) : Option (Int32 × Mem) := (if x3 < 0 then (if x1 = 0 then some ((G (q0 + 4) 0), G) else some (x2, G)) else ix x3 64 (lt (mset G (q0 + 4) x3.toNatClampNeg (-1)) (fun G37 => itr FU (FX9_bestOrder_41 rec27 q0 x1 x3) (x2, 0, G37))))
def FX9_bestOrder_27 (q0 : Nat) (x1 : Int32) : ((Int32 × Int32 × Mem) → Option (Int32 × Mem)) → (Int32 × Int32 × Mem) → Option (Int32 × Mem) := fun rec x => bX9_bestOrder_27 q0 x1 rec x.1 x.2.1 x.2.2
def fX9_bestOrder (q0 : Nat) (x1 : Int32) (G : Mem) : Option (Int32 × Mem) := bd (fX9_in x1 0 1 G) (fun r3 G3 => (if r3 = 0 then some ((-1), G3) else bd (fX9_contracts q0 G3) (fun r12 G12 => (if r12 = 0 then some ((-9), G12) else itr FU (FX9_bestOrder_27 q0 x1) ((-9), 63, G12)))))
end
section
section
variable {p : Program} {l : Launch} {e : Env} {s : State} {m : MethodId} {args : Array Value} {below : List Frame} {meth : Method} {c : Code} {A : Nat → Prop} {D : va_G} {cy : Nat → ClassId} {ad kd : Nat → Nat} {NP : Nat} {G' : Mem}
/-- HedgeChains$Hedge.has(I)Z -/
theorem kX1_has {r : Int32}  {q0 : Nat} {x1 : Int32} (a0 : A1 kd NP q0) {G : Mem} (h : fX1_has q0 x1 G = some (r, G')) : xMi l D cy ad kd NP A yX1_has cX1_has 2 (some .boolean) 0 0 [.ref (ad q0), .int x1] G r G' := by
  refine xMi_of trivial (by decide +kernel) (Nat.le_of_ble_eq_true rfl) (fun p e s m args below meth c C => ?_)
  have C : xC p s m args meth c cX1_has RX1 2 (some .boolean) D cy := C
  refine xsub C (lv' := [(0, .ref (ad q0)), (1, .int x1)]) [0, 1] rfl ?_
  unfold fX1_has at h
  refine xiload_n C 1 rfl rfl dX1_has_0 ?_
  refine xif_lt C (tgt := 16) h (by decide) dX1_has_1 (fun h => ?_) (fun h => ?_)
  · refine xiconst C (v := 0) dX1_has_16 (by decide) ?_
    cases h
    exact xzret C (Or.inl rfl) rfl dX1_has_17
  · refine xiload_n C 1 rfl rfl dX1_has_4 ?_
    refine xaload_n C 0 rfl rfl dX1_has_5 ?_
    refine xg_1_length C a0.1 w_45 dX1_has_6 ?_
    refine xicmp_ge C (tgt := 16) h (by decide) dX1_has_9 (fun h => ?_) (fun h => ?_)
    · refine xiconst C (v := 0) dX1_has_16 (by decide) ?_
      cases h
      exact xzret C (Or.inl rfl) rfl dX1_has_17
    · refine xiconst C (v := 1) dX1_has_12 (by decide) ?_
      refine xgoto C (tgt := 17) (by decide) dX1_has_13 ?_
      cases h
      exact xzret C (Or.inr rfl) rfl dX1_has_17
/-- HedgeChains$Hedge.changeChain(III)V -/
theorem kX1_changeChain  {q0 : Nat} {x1 : Int32} {x2 : Int32} {x3 : Int32} (a0 : A1 kd NP q0) {G : Mem} (h : fX1_changeChain q0 x1 x2 x3 G = some G') : xMv l D cy ad kd NP A yX1_changeChain cX1_changeChain 4 none 1 21 [.ref (ad q0), .int x1, .int x2, .int x3] G G' := by
  refine xMv_of trivial (by decide +kernel) (Nat.le_of_ble_eq_true rfl) (fun p e s m args below meth c C => ?_)
  have C : xC p s m args meth c cX1_changeChain RX1 4 none D cy := C
  refine xsub C (lv' := [(0, .ref (ad q0)), (1, .int x1), (2, .int x2), (3, .int x3)]) [0, 1, 2, 3] rfl ?_
  unfold fX1_changeChain at h
  refine xaload_n C 0 rfl rfl dX1_changeChain_0 ?_
  refine xiload_n C 1 rfl rfl dX1_changeChain_1 ?_
  obtain ⟨r2, G2, hc2, h⟩ := bd_some h
  refine xVi C (As := [.int x1]) (rest := []) (kX1_has a0 hc2) a0.1 rfl rfl w_67 mvX1_has mwX1_has rfl ⟨Nat.le_of_ble_eq_true rfl, Nat.le_of_ble_eq_true rfl⟩ ⟨Nat.le_refl _, Nat.le_refl _⟩ (Nat.le_of_ble_eq_true rfl) dX1_changeChain_2 ?_
  refine xif_eq C (tgt := 29) h (by decide) dX1_changeChain_5 (fun h => ?_) (fun h => ?_)
  · cases h
    exact xvret C rfl dX1_changeChain_29
  · refine xaload_n C 0 rfl rfl dX1_changeChain_8 ?_
    refine xg_1_kinds C a0.1 w_42 dX1_changeChain_9 ?_
    refine xiload_n C 1 rfl rfl dX1_changeChain_12 ?_
    refine xiload_n C 2 rfl rfl dX1_changeChain_13 ?_
    obtain ⟨hi14, h⟩ := ix_some h
    refine xis_10 C x1.toNatClampNeg rfl a0.2.1 hi14 dX1_changeChain_14 ?_
    generalize mset G2 (q0 + 1) x1.toNatClampNeg x2 = G14 at h ⊢
    replace h := lt_go h
    refine xaload_n C 0 rfl rfl dX1_changeChain_15 ?_
    refine xg_1_thicknesses C a0.1 w_43 dX1_changeChain_16 ?_
    refine xiload_n C 1 rfl rfl dX1_changeChain_19 ?_
    refine xiload_n C 3 rfl rfl dX1_changeChain_20 ?_
    obtain ⟨hi21, h⟩ := ix_some h
    refine xis_10 C x1.toNatClampNeg rfl a0.2.2.1 hi21 dX1_changeChain_21 ?_
    generalize mset G14 (q0 + 2) x1.toNatClampNeg x3 = G21 at h ⊢
    replace h := lt_go h
    refine xaload_n C 0 rfl rfl dX1_changeChain_22 ?_
    refine xg_1_ages C a0.1 w_44 dX1_changeChain_23 ?_
    refine xiload_n C 1 rfl rfl dX1_changeChain_26 ?_
    refine xiconst C (v := 0) dX1_changeChain_27 (by decide) ?_
    obtain ⟨hi28, h⟩ := ix_some h
    refine xis_10 C x1.toNatClampNeg rfl a0.2.2.2 hi28 dX1_changeChain_28 ?_
    generalize mset G21 (q0 + 3) x1.toNatClampNeg 0 = G28 at h ⊢
    replace h := lt_go h
    cases h
    exact xvret C rfl dX1_changeChain_29
/-- HedgeChains$Hedge.addChains(III)V -/
theorem wX1_addChains_3 (C : xC p s m args meth c cX1_addChains RX1 5 none D cy) (q0 : Nat) (x1 : Int32) (x2 : Int32) (x3 : Int32) (a0 : A1 kd NP q0) : ∀ (n : Nat) (x4 : Int32) (G : Mem) (h : itr n (FX1_addChains_3 q0 x1 x2 x3) (x4, G) = some G'), xX p l e (xR 2 44) s m args below meth c A s.heap D cy ad kd NP 5 0 0 (xQv below D cy ad kd NP A args s G') G 3 [(0, .ref (ad q0)), (1, .int x1), (2, .int x2), (3, .int x3), (4, .int x4)] [] := by
  intro n
  induction n with
  | zero =>
    intro x4 G h
    have h : none = some G' := h
    cases h
  | succ n ih =>
    intro x4 G h
    have h : bX1_addChains_3 q0 x1 x2 x3 (itr n (FX1_addChains_3 q0 x1 x2 x3)) x4 G = some G' := h
    have hrec3 : ∀ (x4 : Int32) (G : Mem), itr n (FX1_addChains_3 q0 x1 x2 x3) (x4, G) = some G' → xX p l e (xR 2 44) s m args below meth c A s.heap D cy ad kd NP 5 0 0 (xQv below D cy ad kd NP A args s G') G 3 [(0, .ref (ad q0)), (1, .int x1), (2, .int x2), (3, .int x3), (4, .int x4)] [] := fun x4 G h => ih x4 G h
    unfold bX1_addChains_3 at h
    refine xiload C 4 rfl dX1_addChains_3 ?_
    refine xiload_n C 3 rfl rfl dX1_addChains_5 ?_
    refine xicmp_ge C (tgt := 46) h (by decide) dX1_addChains_6 (fun h => ?_) (fun h => ?_)
    · cases h
      exact xvret C rfl dX1_addChains_46
    · refine xaload_n C 0 rfl rfl dX1_addChains_9 ?_
      refine xg_1_length C a0.1 w_45 dX1_addChains_10 ?_
      refine xbipush C (v := 30) dX1_addChains_13 (by decide) ?_
      refine xicmp_ge C (tgt := 46) h (by decide) dX1_addChains_15 (fun h => ?_) (fun h => ?_)
      · cases h
        exact xvret C rfl dX1_addChains_46
      · refine xaload_n C 0 rfl rfl dX1_addChains_18 ?_
        refine xdup C dX1_addChains_19 rfl ?_
        refine xg_1_length C a0.1 w_45 dX1_addChains_20 ?_
        refine xiconst C (v := 1) dX1_addChains_23 (by decide) ?_
        refine xiadd C dX1_addChains_24 ?_
        refine xp_1_length C a0.1 w_45 dX1_addChains_25 ?_
        generalize mset G q0 3 ((G q0 3) + 1) = G25 at h ⊢
        replace h := lt_go h
        refine xaload_n C 0 rfl rfl dX1_addChains_28 ?_
        refine xaload_n C 0 rfl rfl dX1_addChains_29 ?_
        refine xg_1_length C a0.1 w_45 dX1_addChains_30 ?_
        refine xiconst C (v := 1) dX1_addChains_33 (by decide) ?_
        refine xisub C dX1_addChains_34 ?_
        refine xiload_n C 1 rfl rfl dX1_addChains_35 ?_
        refine xiload_n C 2 rfl rfl dX1_addChains_36 ?_
        obtain ⟨G37, hc37, h⟩ := bv_some h
        refine xVv C (As := [.int ((G25 q0 3) - 1), .int x1, .int x2]) (rest := []) (kX1_changeChain a0 hc37) a0.1 rfl rfl w_63 mvX1_changeChain mwX1_changeChain rfl ⟨Nat.le_of_ble_eq_true rfl, Nat.le_of_ble_eq_true rfl⟩ ⟨Nat.le_refl _, Nat.le_refl _⟩ (Nat.le_of_ble_eq_true rfl) dX1_addChains_37 ?_
        refine xiinc C (v := (x4 + 1)) (lv' := [(4, .int (x4 + 1)), (0, .ref (ad q0)), (1, .int x1), (2, .int x2), (3, .int x3)]) 4 rfl rfl (by decide) rfl dX1_addChains_40 ?_
        refine xgoto C (tgt := 3) (by decide) dX1_addChains_43 ?_
        refine xsub C (lv' := [(0, .ref (ad q0)), (1, .int x1), (2, .int x2), (3, .int x3), (4, .int (x4 + 1))]) [1, 2, 3, 4, 0] rfl ?_
        exact hrec3 (x4 + 1) G37 h
theorem kX1_addChains  {q0 : Nat} {x1 : Int32} {x2 : Int32} {x3 : Int32} (a0 : A1 kd NP q0) {G : Mem} (h : fX1_addChains q0 x1 x2 x3 G = some G') : xMv l D cy ad kd NP A yX1_addChains cX1_addChains 5 none 2 44 [.ref (ad q0), .int x1, .int x2, .int x3] G G' := by
  refine xMv_of trivial (by decide +kernel) (Nat.le_of_ble_eq_true rfl) (fun p e s m args below meth c C => ?_)
  have C : xC p s m args meth c cX1_addChains RX1 5 none D cy := C
  refine xsub C (lv' := [(0, .ref (ad q0)), (1, .int x1), (2, .int x2), (3, .int x3)]) [0, 1, 2, 3] rfl ?_
  unfold fX1_addChains at h
  refine xiconst C (v := 0) dX1_addChains_0 (by decide) ?_
  refine xistore C (lv' := [(4, .int 0), (0, .ref (ad q0)), (1, .int x1), (2, .int x2), (3, .int x3)]) (by decide) rfl dX1_addChains_1 ?_
  refine xsub C (lv' := [(0, .ref (ad q0)), (1, .int x1), (2, .int x2), (3, .int x3), (4, .int 0)]) [1, 2, 3, 4, 0] rfl ?_
  exact wX1_addChains_3 C q0 x1 x2 x3 a0 _ 0 G h
/-- HedgeChains$Hedge.isToLay(I)Z -/
theorem kX1_isToLay {r : Int32}  {q0 : Nat} {x1 : Int32} (a0 : A1 kd NP q0) {G : Mem} (h : fX1_isToLay q0 x1 G = some (r, G')) : xMi l D cy ad kd NP A yX1_isToLay cX1_isToLay 2 (some .boolean) 1 21 [.ref (ad q0), .int x1] G r G' := by
  refine xMi_of trivial (by decide +kernel) (Nat.le_of_ble_eq_true rfl) (fun p e s m args below meth c C => ?_)
  have C : xC p s m args meth c cX1_isToLay RX1 2 (some .boolean) D cy := C
  refine xsub C (lv' := [(0, .ref (ad q0)), (1, .int x1)]) [0, 1] rfl ?_
  unfold fX1_isToLay at h
  refine xaload_n C 0 rfl rfl dX1_isToLay_0 ?_
  refine xiload_n C 1 rfl rfl dX1_isToLay_1 ?_
  obtain ⟨r2, G2, hc2, h⟩ := bd_some h
  refine xVi C (As := [.int x1]) (rest := []) (kX1_has a0 hc2) a0.1 rfl rfl w_67 mvX1_has mwX1_has rfl ⟨Nat.le_of_ble_eq_true rfl, Nat.le_of_ble_eq_true rfl⟩ ⟨Nat.le_refl _, Nat.le_refl _⟩ (Nat.le_of_ble_eq_true rfl) dX1_isToLay_2 ?_
  refine xif_eq C (tgt := 31) h (by decide) dX1_isToLay_5 (fun h => ?_) (fun h => ?_)
  · refine xiconst C (v := 0) dX1_isToLay_31 (by decide) ?_
    cases h
    exact xzret C (Or.inl rfl) rfl dX1_isToLay_32
  · refine xaload_n C 0 rfl rfl dX1_isToLay_8 ?_
    refine xg_1_kinds C a0.1 w_42 dX1_isToLay_9 ?_
    refine xiload_n C 1 rfl rfl dX1_isToLay_12 ?_
    obtain ⟨hi13, h⟩ := ix_some h
    refine xia_10 C x1.toNatClampNeg rfl a0.2.1 hi13 dX1_isToLay_13 ?_
    refine xif_ne C (tgt := 31) h (by decide) dX1_isToLay_14 (fun h => ?_) (fun h => ?_)
    · refine xaload_n C 0 rfl rfl dX1_isToLay_17 ?_
      refine xg_1_thicknesses C a0.1 w_43 dX1_isToLay_18 ?_
      refine xiload_n C 1 rfl rfl dX1_isToLay_21 ?_
      obtain ⟨hi22, h⟩ := ix_some h
      refine xia_10 C x1.toNatClampNeg rfl a0.2.2.1 hi22 dX1_isToLay_22 ?_
      refine xiconst C (v := 2) dX1_isToLay_23 (by decide) ?_
      refine xicmp_lt C (tgt := 31) h (by decide) dX1_isToLay_24 (fun h => ?_) (fun h => ?_)
      · refine xiconst C (v := 0) dX1_isToLay_31 (by decide) ?_
        cases h
        exact xzret C (Or.inl rfl) rfl dX1_isToLay_32
      · refine xiconst C (v := 1) dX1_isToLay_27 (by decide) ?_
        refine xgoto C (tgt := 32) (by decide) dX1_isToLay_28 ?_
        cases h
        exact xzret C (Or.inr rfl) rfl dX1_isToLay_32
    · refine xiconst C (v := 0) dX1_isToLay_31 (by decide) ?_
      cases h
      exact xzret C (Or.inl rfl) rfl dX1_isToLay_32
/-- HedgeChains$Hedge.thicknessOf(I)I -/
theorem kX1_thicknessOf {r : Int32}  {q0 : Nat} {x1 : Int32} (a0 : A1 kd NP q0) {G : Mem} (h : fX1_thicknessOf q0 x1 G = some (r, G')) : xMi l D cy ad kd NP A yX1_thicknessOf cX1_thicknessOf 2 (some .int) 1 21 [.ref (ad q0), .int x1] G r G' := by
  refine xMi_of trivial (by decide +kernel) (Nat.le_of_ble_eq_true rfl) (fun p e s m args below meth c C => ?_)
  have C : xC p s m args meth c cX1_thicknessOf RX1 2 (some .int) D cy := C
  refine xsub C (lv' := [(0, .ref (ad q0)), (1, .int x1)]) [0, 1] rfl ?_
  unfold fX1_thicknessOf at h
  refine xaload_n C 0 rfl rfl dX1_thicknessOf_0 ?_
  refine xiload_n C 1 rfl rfl dX1_thicknessOf_1 ?_
  obtain ⟨r2, G2, hc2, h⟩ := bd_some h
  refine xVi C (As := [.int x1]) (rest := []) (kX1_has a0 hc2) a0.1 rfl rfl w_67 mvX1_has mwX1_has rfl ⟨Nat.le_of_ble_eq_true rfl, Nat.le_of_ble_eq_true rfl⟩ ⟨Nat.le_refl _, Nat.le_refl _⟩ (Nat.le_of_ble_eq_true rfl) dX1_thicknessOf_2 ?_
  refine xif_eq C (tgt := 17) h (by decide) dX1_thicknessOf_5 (fun h => ?_) (fun h => ?_)
  · refine xiconst C (v := 0) dX1_thicknessOf_17 (by decide) ?_
    cases h
    exact xiret C rfl dX1_thicknessOf_18
  · refine xaload_n C 0 rfl rfl dX1_thicknessOf_8 ?_
    refine xg_1_thicknesses C a0.1 w_43 dX1_thicknessOf_9 ?_
    refine xiload_n C 1 rfl rfl dX1_thicknessOf_12 ?_
    obtain ⟨hi13, h⟩ := ix_some h
    refine xia_10 C x1.toNatClampNeg rfl a0.2.2.1 hi13 dX1_thicknessOf_13 ?_
    refine xgoto C (tgt := 18) (by decide) dX1_thicknessOf_14 ?_
    cases h
    exact xiret C rfl dX1_thicknessOf_18
/-- HedgeChains$Hedge.copyFrom(LHedgeChains$Hedge;)V -/
theorem kX1_copyFrom  {q0 : Nat} {q1 : Nat} (a0 : A1 kd NP q0) (a1 : A1 kd NP q1) {G : Mem} (h : fX1_copyFrom q0 q1 G = some G') : xMv l D cy ad kd NP A yX1_copyFrom cX1_copyFrom 2 none 1 26 [.ref (ad q0), .ref (ad q1)] G G' := by
  refine xMv_of trivial (by decide +kernel) (Nat.le_of_ble_eq_true rfl) (fun p e s m args below meth c C => ?_)
  have C : xC p s m args meth c cX1_copyFrom RX1 2 none D cy := C
  refine xsub C (lv' := [(0, .ref (ad q0)), (1, .ref (ad q1))]) [0, 1] rfl ?_
  unfold fX1_copyFrom at h
  refine xaload_n C 1 rfl rfl dX1_copyFrom_0 ?_
  refine xg_1_kinds C a1.1 w_42 dX1_copyFrom_1 ?_
  refine xiconst C (v := 0) dX1_copyFrom_4 (by decide) ?_
  refine xaload_n C 0 rfl rfl dX1_copyFrom_5 ?_
  refine xg_1_kinds C a0.1 w_42 dX1_copyFrom_6 ?_
  refine xiconst C (v := 0) dX1_copyFrom_9 (by decide) ?_
  refine xbipush C (v := 30) dX1_copyFrom_10 (by decide) ?_
  refine xcopy30 C a1.2.1 a0.2.1 w_317 w_319 w_318 w_11 ⟨Nat.le_of_ble_eq_true rfl, by decide +kernel⟩ dX1_copyFrom_12 ?_
  generalize mrow G (q0 + 1) (va_cpy (G (q1 + 1)) (G (q0 + 1)) 0 0 30) = G12 at h ⊢
  replace h := lt_go h
  refine xaload_n C 1 rfl rfl dX1_copyFrom_15 ?_
  refine xg_1_thicknesses C a1.1 w_43 dX1_copyFrom_16 ?_
  refine xiconst C (v := 0) dX1_copyFrom_19 (by decide) ?_
  refine xaload_n C 0 rfl rfl dX1_copyFrom_20 ?_
  refine xg_1_thicknesses C a0.1 w_43 dX1_copyFrom_21 ?_
  refine xiconst C (v := 0) dX1_copyFrom_24 (by decide) ?_
  refine xbipush C (v := 30) dX1_copyFrom_25 (by decide) ?_
  refine xcopy30 C a1.2.2.1 a0.2.2.1 w_317 w_319 w_318 w_11 ⟨Nat.le_of_ble_eq_true rfl, by decide +kernel⟩ dX1_copyFrom_27 ?_
  generalize mrow G12 (q0 + 2) (va_cpy (G12 (q1 + 2)) (G12 (q0 + 2)) 0 0 30) = G27 at h ⊢
  replace h := lt_go h
  refine xaload_n C 1 rfl rfl dX1_copyFrom_30 ?_
  refine xg_1_ages C a1.1 w_44 dX1_copyFrom_31 ?_
  refine xiconst C (v := 0) dX1_copyFrom_34 (by decide) ?_
  refine xaload_n C 0 rfl rfl dX1_copyFrom_35 ?_
  refine xg_1_ages C a0.1 w_44 dX1_copyFrom_36 ?_
  refine xiconst C (v := 0) dX1_copyFrom_39 (by decide) ?_
  refine xbipush C (v := 30) dX1_copyFrom_40 (by decide) ?_
  refine xcopy30 C a1.2.2.2 a0.2.2.2 w_317 w_319 w_318 w_11 ⟨Nat.le_of_ble_eq_true rfl, by decide +kernel⟩ dX1_copyFrom_42 ?_
  generalize mrow G27 (q0 + 3) (va_cpy (G27 (q1 + 3)) (G27 (q0 + 3)) 0 0 30) = G42 at h ⊢
  replace h := lt_go h
  refine xaload_n C 0 rfl rfl dX1_copyFrom_45 ?_
  refine xaload_n C 1 rfl rfl dX1_copyFrom_46 ?_
  refine xg_1_length C a1.1 w_45 dX1_copyFrom_47 ?_
  refine xp_1_length C a0.1 w_45 dX1_copyFrom_50 ?_
  generalize mset G42 q0 3 (G42 q1 3) = G50 at h ⊢
  replace h := lt_go h
  cases h
  exact xvret C rfl dX1_copyFrom_53
/-- HedgeChains$Contract.copyFrom(LHedgeChains$Contract;)V -/
theorem kX0_copyFrom  {q0 : Nat} {q1 : Nat} (a0 : A0 kd NP q0) (a1 : A0 kd NP q1) {G : Mem} (h : fX0_copyFrom q0 q1 G = some G') : xMv l D cy ad kd NP A yX0_copyFrom cX0_copyFrom 2 none 0 0 [.ref (ad q0), .ref (ad q1)] G G' := by
  refine xMv_of trivial (by decide +kernel) (Nat.le_of_ble_eq_true rfl) (fun p e s m args below meth c C => ?_)
  have C : xC p s m args meth c cX0_copyFrom RX0 2 none D cy := C
  refine xsub C (lv' := [(0, .ref (ad q0)), (1, .ref (ad q1))]) [0, 1] rfl ?_
  unfold fX0_copyFrom at h
  refine xaload_n C 0 rfl rfl dX0_copyFrom_0 ?_
  refine xaload_n C 1 rfl rfl dX0_copyFrom_1 ?_
  refine xg_0_made C a1 w_76 dX0_copyFrom_2 ?_
  obtain ⟨hz5, h⟩ := zk_some h
  refine xp_0_made C a0 hz5 w_76 dX0_copyFrom_5 ?_
  generalize mset G q0 0 (G q1 0) = G5 at h ⊢
  replace h := lt_go h
  refine xaload_n C 0 rfl rfl dX0_copyFrom_8 ?_
  refine xaload_n C 1 rfl rfl dX0_copyFrom_9 ?_
  refine xg_0_price C a1 w_80 dX0_copyFrom_10 ?_
  refine xp_0_price C a0 w_80 dX0_copyFrom_13 ?_
  generalize mset G5 q0 1 (G5 q1 1) = G13 at h ⊢
  replace h := lt_go h
  refine xaload_n C 0 rfl rfl dX0_copyFrom_16 ?_
  refine xaload_n C 1 rfl rfl dX0_copyFrom_17 ?_
  refine xg_0_lastWeek C a1 w_83 dX0_copyFrom_18 ?_
  refine xp_0_lastWeek C a0 w_83 dX0_copyFrom_21 ?_
  generalize mset G13 q0 2 (G13 q1 2) = G21 at h ⊢
  replace h := lt_go h
  refine xaload_n C 0 rfl rfl dX0_copyFrom_24 ?_
  refine xaload_n C 1 rfl rfl dX0_copyFrom_25 ?_
  refine xg_0_fine C a1 w_87 dX0_copyFrom_26 ?_
  refine xp_0_fine C a0 w_87 dX0_copyFrom_29 ?_
  generalize mset G21 q0 3 (G21 q1 3) = G29 at h ⊢
  replace h := lt_go h
  cases h
  exact xvret C rfl dX0_copyFrom_32
/-- HedgeChains$Hedge.kindOf(I)I -/
theorem kX1_kindOf {r : Int32}  {q0 : Nat} {x1 : Int32} (a0 : A1 kd NP q0) {G : Mem} (h : fX1_kindOf q0 x1 G = some (r, G')) : xMi l D cy ad kd NP A yX1_kindOf cX1_kindOf 2 (some .int) 1 21 [.ref (ad q0), .int x1] G r G' := by
  refine xMi_of trivial (by decide +kernel) (Nat.le_of_ble_eq_true rfl) (fun p e s m args below meth c C => ?_)
  have C : xC p s m args meth c cX1_kindOf RX1 2 (some .int) D cy := C
  refine xsub C (lv' := [(0, .ref (ad q0)), (1, .int x1)]) [0, 1] rfl ?_
  unfold fX1_kindOf at h
  refine xaload_n C 0 rfl rfl dX1_kindOf_0 ?_
  refine xiload_n C 1 rfl rfl dX1_kindOf_1 ?_
  obtain ⟨r2, G2, hc2, h⟩ := bd_some h
  refine xVi C (As := [.int x1]) (rest := []) (kX1_has a0 hc2) a0.1 rfl rfl w_67 mvX1_has mwX1_has rfl ⟨Nat.le_of_ble_eq_true rfl, Nat.le_of_ble_eq_true rfl⟩ ⟨Nat.le_refl _, Nat.le_refl _⟩ (Nat.le_of_ble_eq_true rfl) dX1_kindOf_2 ?_
  refine xif_eq C (tgt := 17) h (by decide) dX1_kindOf_5 (fun h => ?_) (fun h => ?_)
  · refine xiconst C (v := (-1)) dX1_kindOf_17 (by decide) ?_
    cases h
    exact xiret C rfl dX1_kindOf_18
  · refine xaload_n C 0 rfl rfl dX1_kindOf_8 ?_
    refine xg_1_kinds C a0.1 w_42 dX1_kindOf_9 ?_
    refine xiload_n C 1 rfl rfl dX1_kindOf_12 ?_
    obtain ⟨hi13, h⟩ := ix_some h
    refine xia_10 C x1.toNatClampNeg rfl a0.2.1 hi13 dX1_kindOf_13 ?_
    refine xgoto C (tgt := 18) (by decide) dX1_kindOf_14 ?_
    cases h
    exact xiret C rfl dX1_kindOf_18
/-- HedgeChains$Hedge.numberOf(I)I -/
theorem wX1_numberOf_4 {r : Int32} (C : xC p s m args meth c cX1_numberOf RX1 4 (some .int) D cy) (q0 : Nat) (x1 : Int32) (a0 : A1 kd NP q0) : ∀ (n : Nat) (x2 : Int32) (x3 : Int32) (G : Mem) (h : itr n (FX1_numberOf_4 q0 x1) (x2, x3, G) = some (r, G')), xX p l e (xR 2 42) s m args below meth c A s.heap D cy ad kd NP 4 0 0 (xQi below D cy ad kd NP A args s r G') G 4 [(0, .ref (ad q0)), (1, .int x1), (2, .int x2), (3, .int x3)] [] := by
  intro n
  induction n with
  | zero =>
    intro x2 x3 G h
    have h : none = some (r, G') := h
    cases h
  | succ n ih =>
    intro x2 x3 G h
    have h : bX1_numberOf_4 q0 x1 (itr n (FX1_numberOf_4 q0 x1)) x2 x3 G = some (r, G') := h
    have hrec4 : ∀ (x2 : Int32) (x3 : Int32) (G : Mem), itr n (FX1_numberOf_4 q0 x1) (x2, x3, G) = some (r, G') → xX p l e (xR 2 42) s m args below meth c A s.heap D cy ad kd NP 4 0 0 (xQi below D cy ad kd NP A args s r G') G 4 [(0, .ref (ad q0)), (1, .int x1), (2, .int x2), (3, .int x3)] [] := fun x2 x3 G h => ih x2 x3 G h
    unfold bX1_numberOf_4 at h
    refine xiload_n C 3 rfl rfl dX1_numberOf_4 ?_
    refine xaload_n C 0 rfl rfl dX1_numberOf_5 ?_
    refine xg_1_length C a0.1 w_45 dX1_numberOf_6 ?_
    refine xicmp_ge C (tgt := 30) h (by decide) dX1_numberOf_9 (fun h => ?_) (fun h => ?_)
    · refine xiload_n C 2 rfl rfl dX1_numberOf_30 ?_
      cases h
      exact xiret C rfl dX1_numberOf_31
    · refine xaload_n C 0 rfl rfl dX1_numberOf_12 ?_
      refine xiload_n C 3 rfl rfl dX1_numberOf_13 ?_
      obtain ⟨r14, G14, hc14, h⟩ := bd_some h
      refine xVi C (As := [.int x3]) (rest := []) (kX1_kindOf a0 hc14) a0.1 rfl rfl w_340 mvX1_kindOf mwX1_kindOf rfl ⟨Nat.le_of_ble_eq_true rfl, Nat.le_of_ble_eq_true rfl⟩ ⟨Nat.le_refl _, Nat.le_refl _⟩ (Nat.le_of_ble_eq_true rfl) dX1_numberOf_14 ?_
      refine xiload_n C 1 rfl rfl dX1_numberOf_17 ?_
      refine xicmp_ne C (tgt := 24) h (by decide) dX1_numberOf_18 (fun h => ?_) (fun h => ?_)
      · refine xiinc C (v := (x2 + 1)) (lv' := [(2, .int (x2 + 1)), (0, .ref (ad q0)), (1, .int x1), (3, .int x3)]) 2 rfl rfl (by decide) rfl dX1_numberOf_21 ?_
        refine xiinc C (v := (x3 + 1)) (lv' := [(3, .int (x3 + 1)), (2, .int (x2 + 1)), (0, .ref (ad q0)), (1, .int x1)]) 3 rfl rfl (by decide) rfl dX1_numberOf_24 ?_
        refine xgoto C (tgt := 4) (by decide) dX1_numberOf_27 ?_
        refine xsub C (lv' := [(0, .ref (ad q0)), (1, .int x1), (2, .int (x2 + 1)), (3, .int (x3 + 1))]) [2, 3, 1, 0] rfl ?_
        exact hrec4 (x2 + 1) (x3 + 1) G14 h
      · refine xiinc C (v := (x3 + 1)) (lv' := [(3, .int (x3 + 1)), (0, .ref (ad q0)), (1, .int x1), (2, .int x2)]) 3 rfl rfl (by decide) rfl dX1_numberOf_24 ?_
        refine xgoto C (tgt := 4) (by decide) dX1_numberOf_27 ?_
        refine xsub C (lv' := [(0, .ref (ad q0)), (1, .int x1), (2, .int x2), (3, .int (x3 + 1))]) [1, 2, 3, 0] rfl ?_
        exact hrec4 x2 (x3 + 1) G14 h
theorem kX1_numberOf {r : Int32}  {q0 : Nat} {x1 : Int32} (a0 : A1 kd NP q0) {G : Mem} (h : fX1_numberOf q0 x1 G = some (r, G')) : xMi l D cy ad kd NP A yX1_numberOf cX1_numberOf 4 (some .int) 2 42 [.ref (ad q0), .int x1] G r G' := by
  refine xMi_of trivial (by decide +kernel) (Nat.le_of_ble_eq_true rfl) (fun p e s m args below meth c C => ?_)
  have C : xC p s m args meth c cX1_numberOf RX1 4 (some .int) D cy := C
  refine xsub C (lv' := [(0, .ref (ad q0)), (1, .int x1)]) [0, 1] rfl ?_
  unfold fX1_numberOf at h
  refine xiconst C (v := 0) dX1_numberOf_0 (by decide) ?_
  refine xistore_n C (lv' := [(2, .int 0), (0, .ref (ad q0)), (1, .int x1)]) rfl (by decide) rfl dX1_numberOf_1 ?_
  refine xiconst C (v := 0) dX1_numberOf_2 (by decide) ?_
  refine xistore_n C (lv' := [(3, .int 0), (2, .int 0), (0, .ref (ad q0)), (1, .int x1)]) rfl (by decide) rfl dX1_numberOf_3 ?_
  refine xsub C (lv' := [(0, .ref (ad q0)), (1, .int x1), (2, .int 0), (3, .int 0)]) [2, 3, 1, 0] rfl ?_
  exact wX1_numberOf_4 C q0 x1 a0 _ 0 0 G h
/-- HedgeChains$Hedge.isToCut(I)Z -/
theorem kX1_isToCut {r : Int32}  {q0 : Nat} {x1 : Int32} (a0 : A1 kd NP q0) {G : Mem} (h : fX1_isToCut q0 x1 G = some (r, G')) : xMi l D cy ad kd NP A yX1_isToCut cX1_isToCut 2 (some .boolean) 1 21 [.ref (ad q0), .int x1] G r G' := by
  refine xMi_of trivial (by decide +kernel) (Nat.le_of_ble_eq_true rfl) (fun p e s m args below meth c C => ?_)
  have C : xC p s m args meth c cX1_isToCut RX1 2 (some .boolean) D cy := C
  refine xsub C (lv' := [(0, .ref (ad q0)), (1, .int x1)]) [0, 1] rfl ?_
  unfold fX1_isToCut at h
  refine xaload_n C 0 rfl rfl dX1_isToCut_0 ?_
  refine xiload_n C 1 rfl rfl dX1_isToCut_1 ?_
  obtain ⟨r2, G2, hc2, h⟩ := bd_some h
  refine xVi C (As := [.int x1]) (rest := []) (kX1_has a0 hc2) a0.1 rfl rfl w_67 mvX1_has mwX1_has rfl ⟨Nat.le_of_ble_eq_true rfl, Nat.le_of_ble_eq_true rfl⟩ ⟨Nat.le_refl _, Nat.le_refl _⟩ (Nat.le_of_ble_eq_true rfl) dX1_isToCut_2 ?_
  refine xif_eq C (tgt := 31) h (by decide) dX1_isToCut_5 (fun h => ?_) (fun h => ?_)
  · refine xiconst C (v := 0) dX1_isToCut_31 (by decide) ?_
    cases h
    exact xzret C (Or.inl rfl) rfl dX1_isToCut_32
  · refine xaload_n C 0 rfl rfl dX1_isToCut_8 ?_
    refine xg_1_kinds C a0.1 w_42 dX1_isToCut_9 ?_
    refine xiload_n C 1 rfl rfl dX1_isToCut_12 ?_
    obtain ⟨hi13, h⟩ := ix_some h
    refine xia_10 C x1.toNatClampNeg rfl a0.2.1 hi13 dX1_isToCut_13 ?_
    refine xif_ne C (tgt := 31) h (by decide) dX1_isToCut_14 (fun h => ?_) (fun h => ?_)
    · refine xaload_n C 0 rfl rfl dX1_isToCut_17 ?_
      refine xg_1_thicknesses C a0.1 w_43 dX1_isToCut_18 ?_
      refine xiload_n C 1 rfl rfl dX1_isToCut_21 ?_
      obtain ⟨hi22, h⟩ := ix_some h
      refine xia_10 C x1.toNatClampNeg rfl a0.2.2.1 hi22 dX1_isToCut_22 ?_
      refine xiconst C (v := 3) dX1_isToCut_23 (by decide) ?_
      refine xicmp_lt C (tgt := 31) h (by decide) dX1_isToCut_24 (fun h => ?_) (fun h => ?_)
      · refine xiconst C (v := 0) dX1_isToCut_31 (by decide) ?_
        cases h
        exact xzret C (Or.inl rfl) rfl dX1_isToCut_32
      · refine xiconst C (v := 1) dX1_isToCut_27 (by decide) ?_
        refine xgoto C (tgt := 32) (by decide) dX1_isToCut_28 ?_
        cases h
        exact xzret C (Or.inr rfl) rfl dX1_isToCut_32
    · refine xiconst C (v := 0) dX1_isToCut_31 (by decide) ?_
      cases h
      exact xzret C (Or.inl rfl) rfl dX1_isToCut_32
/-- HedgeChains$Hedge.ageOf(I)I -/
theorem kX1_ageOf {r : Int32}  {q0 : Nat} {x1 : Int32} (a0 : A1 kd NP q0) {G : Mem} (h : fX1_ageOf q0 x1 G = some (r, G')) : xMi l D cy ad kd NP A yX1_ageOf cX1_ageOf 2 (some .int) 1 21 [.ref (ad q0), .int x1] G r G' := by
  refine xMi_of trivial (by decide +kernel) (Nat.le_of_ble_eq_true rfl) (fun p e s m args below meth c C => ?_)
  have C : xC p s m args meth c cX1_ageOf RX1 2 (some .int) D cy := C
  refine xsub C (lv' := [(0, .ref (ad q0)), (1, .int x1)]) [0, 1] rfl ?_
  unfold fX1_ageOf at h
  refine xaload_n C 0 rfl rfl dX1_ageOf_0 ?_
  refine xiload_n C 1 rfl rfl dX1_ageOf_1 ?_
  obtain ⟨r2, G2, hc2, h⟩ := bd_some h
  refine xVi C (As := [.int x1]) (rest := []) (kX1_has a0 hc2) a0.1 rfl rfl w_67 mvX1_has mwX1_has rfl ⟨Nat.le_of_ble_eq_true rfl, Nat.le_of_ble_eq_true rfl⟩ ⟨Nat.le_refl _, Nat.le_refl _⟩ (Nat.le_of_ble_eq_true rfl) dX1_ageOf_2 ?_
  refine xif_eq C (tgt := 17) h (by decide) dX1_ageOf_5 (fun h => ?_) (fun h => ?_)
  · refine xiconst C (v := 0) dX1_ageOf_17 (by decide) ?_
    cases h
    exact xiret C rfl dX1_ageOf_18
  · refine xaload_n C 0 rfl rfl dX1_ageOf_8 ?_
    refine xg_1_ages C a0.1 w_44 dX1_ageOf_9 ?_
    refine xiload_n C 1 rfl rfl dX1_ageOf_12 ?_
    obtain ⟨hi13, h⟩ := ix_some h
    refine xia_10 C x1.toNatClampNeg rfl a0.2.2.2 hi13 dX1_ageOf_13 ?_
    refine xgoto C (tgt := 18) (by decide) dX1_ageOf_14 ?_
    cases h
    exact xiret C rfl dX1_ageOf_18
/-- HedgeChains$Hedge.growOlder(I)V -/
theorem kX1_growOlder  {q0 : Nat} {x1 : Int32} (a0 : A1 kd NP q0) {G : Mem} (h : fX1_growOlder q0 x1 G = some G') : xMv l D cy ad kd NP A yX1_growOlder cX1_growOlder 2 none 2 44 [.ref (ad q0), .int x1] G G' := by
  refine xMv_of trivial (by decide +kernel) (Nat.le_of_ble_eq_true rfl) (fun p e s m args below meth c C => ?_)
  have C : xC p s m args meth c cX1_growOlder RX1 2 none D cy := C
  refine xsub C (lv' := [(0, .ref (ad q0)), (1, .int x1)]) [0, 1] rfl ?_
  unfold fX1_growOlder at h
  refine xaload_n C 0 rfl rfl dX1_growOlder_0 ?_
  refine xiload_n C 1 rfl rfl dX1_growOlder_1 ?_
  obtain ⟨r2, G2, hc2, h⟩ := bd_some h
  refine xVi C (As := [.int x1]) (rest := []) (kX1_ageOf a0 hc2) a0.1 rfl rfl w_398 mvX1_ageOf mwX1_ageOf rfl ⟨Nat.le_of_ble_eq_true rfl, Nat.le_of_ble_eq_true rfl⟩ ⟨Nat.le_refl _, Nat.le_refl _⟩ (Nat.le_of_ble_eq_true rfl) dX1_growOlder_2 ?_
  refine xiconst C (v := 1) dX1_growOlder_5 (by decide) ?_
  refine xiadd C dX1_growOlder_6 ?_
  refine xbipush C (v := 6) dX1_growOlder_7 (by decide) ?_
  refine xicmp_lt C (tgt := 22) h (by decide) dX1_growOlder_9 (fun h => ?_) (fun h => ?_)
  · refine xaload_n C 0 rfl rfl dX1_growOlder_22 ?_
    refine xiload_n C 1 rfl rfl dX1_growOlder_23 ?_
    obtain ⟨r24, G24, hc24, h⟩ := bd_some h
    refine xVi C (As := [.int x1]) (rest := []) (kX1_has a0 hc24) a0.1 rfl rfl w_67 mvX1_has mwX1_has rfl ⟨Nat.le_of_ble_eq_true rfl, Nat.le_of_ble_eq_true rfl⟩ ⟨Nat.le_refl _, Nat.le_refl _⟩ (Nat.le_of_ble_eq_true rfl) dX1_growOlder_24 ?_
    refine xif_eq C (tgt := 40) h (by decide) dX1_growOlder_27 (fun h => ?_) (fun h => ?_)
    · cases h
      exact xvret C rfl dX1_growOlder_40
    · refine xaload_n C 0 rfl rfl dX1_growOlder_30 ?_
      refine xg_1_ages C a0.1 w_44 dX1_growOlder_31 ?_
      refine xiload_n C 1 rfl rfl dX1_growOlder_34 ?_
      refine xdup2 C dX1_growOlder_35 rfl rfl ?_
      obtain ⟨hi36, h⟩ := ix_some h
      refine xia_10 C x1.toNatClampNeg rfl a0.2.2.2 hi36 dX1_growOlder_36 ?_
      refine xiconst C (v := 1) dX1_growOlder_37 (by decide) ?_
      refine xiadd C dX1_growOlder_38 ?_
      obtain ⟨hi39, h⟩ := ix_some h
      refine xis_10 C x1.toNatClampNeg rfl a0.2.2.2 hi39 dX1_growOlder_39 ?_
      generalize mset G24 (q0 + 3) x1.toNatClampNeg ((G24 (q0 + 3) x1.toNatClampNeg) + 1) = G39 at h ⊢
      replace h := lt_go h
      cases h
      exact xvret C rfl dX1_growOlder_40
  · refine xaload_n C 0 rfl rfl dX1_growOlder_12 ?_
    refine xiload_n C 1 rfl rfl dX1_growOlder_13 ?_
    refine xiconst C (v := 0) dX1_growOlder_14 (by decide) ?_
    refine xiconst C (v := 1) dX1_growOlder_15 (by decide) ?_
    obtain ⟨G16, hc16, h⟩ := bv_some h
    refine xVv C (As := [.int x1, .int 0, .int 1]) (rest := []) (kX1_changeChain a0 hc16) a0.1 rfl rfl w_63 mvX1_changeChain mwX1_changeChain rfl ⟨Nat.le_of_ble_eq_true rfl, Nat.le_of_ble_eq_true rfl⟩ ⟨Nat.le_refl _, Nat.le_refl _⟩ (Nat.le_of_ble_eq_true rfl) dX1_growOlder_16 ?_
    refine xgoto C (tgt := 40) (by decide) dX1_growOlder_19 ?_
    cases h
    exact xvret C rfl dX1_growOlder_40
/-- HedgeChains$Hedge.growLaid(I)V -/
theorem kX1_growLaid  {q0 : Nat} {x1 : Int32} (a0 : A1 kd NP q0) {G : Mem} (h : fX1_growLaid q0 x1 G = some G') : xMv l D cy ad kd NP A yX1_growLaid cX1_growLaid 3 none 2 44 [.ref (ad q0), .int x1] G G' := by
  refine xMv_of trivial (by decide +kernel) (Nat.le_of_ble_eq_true rfl) (fun p e s m args below meth c C => ?_)
  have C : xC p s m args meth c cX1_growLaid RX1 3 none D cy := C
  refine xsub C (lv' := [(0, .ref (ad q0)), (1, .int x1)]) [0, 1] rfl ?_
  unfold fX1_growLaid at h
  refine xaload_n C 0 rfl rfl dX1_growLaid_0 ?_
  refine xiload_n C 1 rfl rfl dX1_growLaid_1 ?_
  obtain ⟨r2, G2, hc2, h⟩ := bd_some h
  refine xVi C (As := [.int x1]) (rest := []) (kX1_thicknessOf a0 hc2) a0.1 rfl rfl w_402 mvX1_thicknessOf mwX1_thicknessOf rfl ⟨Nat.le_of_ble_eq_true rfl, Nat.le_of_ble_eq_true rfl⟩ ⟨Nat.le_refl _, Nat.le_refl _⟩ (Nat.le_of_ble_eq_true rfl) dX1_growLaid_2 ?_
  refine xiconst C (v := 2) dX1_growLaid_5 (by decide) ?_
  refine xiadd C dX1_growLaid_6 ?_
  refine xistore_n C (lv' := [(2, .int (r2 + 2)), (0, .ref (ad q0)), (1, .int x1)]) rfl (by decide) rfl dX1_growLaid_7 ?_
  refine xiload_n C 0 rfl rfl dX1_growLaid_8 ?_
  refine xbipush C (v := 9) dX1_growLaid_9 (by decide) ?_
  refine xicmp_le C (tgt := 25) h (by decide) dX1_growLaid_11 (fun h => ?_) (fun h => ?_)
  · refine xaload_n C 1 rfl rfl dX1_growLaid_25 ?_
    refine xiload_n C 2 rfl rfl dX1_growLaid_26 ?_
    refine xiconst C (v := 1) dX1_growLaid_27 (by decide) ?_
    refine xiload_n C 0 rfl rfl dX1_growLaid_28 ?_
    obtain ⟨G29, hc29, h⟩ := bv_some h
    refine xVv C (As := [.int x1, .int 1, .int (r2 + 2)]) (rest := []) (kX1_changeChain a0 hc29) a0.1 rfl rfl w_63 mvX1_changeChain mwX1_changeChain rfl ⟨Nat.le_of_ble_eq_true rfl, Nat.le_of_ble_eq_true rfl⟩ ⟨Nat.le_refl _, Nat.le_refl _⟩ (Nat.le_of_ble_eq_true rfl) dX1_growLaid_29 ?_
    cases h
    exact xvret C rfl dX1_growLaid_32
  · refine xaload_n C 1 rfl rfl dX1_growLaid_14 ?_
    refine xiload_n C 2 rfl rfl dX1_growLaid_15 ?_
    refine xiconst C (v := 0) dX1_growLaid_16 (by decide) ?_
    refine xbipush C (v := 9) dX1_growLaid_17 (by decide) ?_
    obtain ⟨G19, hc19, h⟩ := bv_some h
    refine xVv C (As := [.int x1, .int 0, .int 9]) (rest := []) (kX1_changeChain a0 hc19) a0.1 rfl rfl w_63 mvX1_changeChain mwX1_changeChain rfl ⟨Nat.le_of_ble_eq_true rfl, Nat.le_of_ble_eq_true rfl⟩ ⟨Nat.le_refl _, Nat.le_refl _⟩ (Nat.le_of_ble_eq_true rfl) dX1_growLaid_19 ?_
    refine xgoto C (tgt := 32) (by decide) dX1_growLaid_22 ?_
    cases h
    exact xvret C rfl dX1_growLaid_32
/-- HedgeChains$Hedge.grow(I)V -/
theorem wX1_grow_60 (C : xC p s m args meth c cX1_grow RX1 4 none D cy) (q0 : Nat) (x1 : Int32) (x2 : Int32) (x3 : Int32) {rec2 : (Int32 × Mem) → Option (Mem)} (hrec2 : ∀ (x2 : Int32) (G : Mem), rec2 (x2, G) = some G' → xX p l e (xR 3 66) s m args below meth c A s.heap D cy ad kd NP 4 0 0 (xQv below D cy ad kd NP A args s G') G 2 [(0, .ref (ad q0)), (1, .int x1), (2, .int x2)] []) (G : Mem) (a0 : A1 kd NP q0) (h : jX1_grow_60 rec2 q0 x1 x2 x3 G = some G') : xX p l e (xR 3 66) s m args below meth c A s.heap D cy ad kd NP 4 0 0 (xQv below D cy ad kd NP A args s G') G 60 [(0, .ref (ad q0)), (1, .int x1), (2, .int x2), (3, .int x3)] [] := by
  unfold jX1_grow_60 at h
  refine xiload_n C 3 rfl rfl dX1_grow_60 ?_
  refine xiconst C (v := 1) dX1_grow_61 (by decide) ?_
  refine xicmp_ne C (tgt := 77) h (by decide) dX1_grow_62 (fun h => ?_) (fun h => ?_)
  · refine xiload_n C 1 rfl rfl dX1_grow_65 ?_
    refine xbipush C (v := 52) dX1_grow_66 (by decide) ?_
    refine xirem C dX1_grow_68 (by decide) ?_
    refine xif_ne C (tgt := 77) h (by decide) dX1_grow_69 (fun h => ?_) (fun h => ?_)
    · refine xaload_n C 0 rfl rfl dX1_grow_72 ?_
      refine xiload_n C 2 rfl rfl dX1_grow_73 ?_
      obtain ⟨G74, hc74, h⟩ := bv_some h
      refine xVv C (As := [.int x2]) (rest := []) (kX1_growLaid a0 hc74) a0.1 rfl rfl w_404 mvX1_growLaid mwX1_growLaid rfl ⟨Nat.le_of_ble_eq_true rfl, Nat.le_of_ble_eq_true rfl⟩ ⟨Nat.le_refl _, Nat.le_refl _⟩ (Nat.le_of_ble_eq_true rfl) dX1_grow_74 ?_
      refine xiinc C (v := (x2 + 1)) (lv' := [(2, .int (x2 + 1)), (0, .ref (ad q0)), (1, .int x1), (3, .int x3)]) 2 rfl rfl (by decide) rfl dX1_grow_77 ?_
      refine xgoto C (tgt := 2) (by decide) dX1_grow_80 ?_
      refine xsub C (lv' := [(0, .ref (ad q0)), (1, .int x1), (2, .int (x2 + 1))]) [1, 2, 0] rfl ?_
      exact hrec2 (x2 + 1) G74 h
    · refine xiinc C (v := (x2 + 1)) (lv' := [(2, .int (x2 + 1)), (0, .ref (ad q0)), (1, .int x1), (3, .int x3)]) 2 rfl rfl (by decide) rfl dX1_grow_77 ?_
      refine xgoto C (tgt := 2) (by decide) dX1_grow_80 ?_
      refine xsub C (lv' := [(0, .ref (ad q0)), (1, .int x1), (2, .int (x2 + 1))]) [1, 2, 0] rfl ?_
      exact hrec2 (x2 + 1) G h
  · refine xiinc C (v := (x2 + 1)) (lv' := [(2, .int (x2 + 1)), (0, .ref (ad q0)), (1, .int x1), (3, .int x3)]) 2 rfl rfl (by decide) rfl dX1_grow_77 ?_
    refine xgoto C (tgt := 2) (by decide) dX1_grow_80 ?_
    refine xsub C (lv' := [(0, .ref (ad q0)), (1, .int x1), (2, .int (x2 + 1))]) [1, 2, 0] rfl ?_
    exact hrec2 (x2 + 1) G h
theorem wX1_grow_2 (C : xC p s m args meth c cX1_grow RX1 4 none D cy) (q0 : Nat) (x1 : Int32) (a0 : A1 kd NP q0) : ∀ (n : Nat) (x2 : Int32) (G : Mem) (h : itr n (FX1_grow_2 q0 x1) (x2, G) = some G'), xX p l e (xR 3 66) s m args below meth c A s.heap D cy ad kd NP 4 0 0 (xQv below D cy ad kd NP A args s G') G 2 [(0, .ref (ad q0)), (1, .int x1), (2, .int x2)] [] := by
  intro n
  induction n with
  | zero =>
    intro x2 G h
    have h : none = some G' := h
    cases h
  | succ n ih =>
    intro x2 G h
    have h : bX1_grow_2 q0 x1 (itr n (FX1_grow_2 q0 x1)) x2 G = some G' := h
    have hrec2 : ∀ (x2 : Int32) (G : Mem), itr n (FX1_grow_2 q0 x1) (x2, G) = some G' → xX p l e (xR 3 66) s m args below meth c A s.heap D cy ad kd NP 4 0 0 (xQv below D cy ad kd NP A args s G') G 2 [(0, .ref (ad q0)), (1, .int x1), (2, .int x2)] [] := fun x2 G h => ih x2 G h
    unfold bX1_grow_2 at h
    refine xiload_n C 2 rfl rfl dX1_grow_2 ?_
    refine xaload_n C 0 rfl rfl dX1_grow_3 ?_
    refine xg_1_length C a0.1 w_45 dX1_grow_4 ?_
    refine xicmp_ge C (tgt := 83) h (by decide) dX1_grow_7 (fun h => ?_) (fun h => ?_)
    · cases h
      exact xvret C rfl dX1_grow_83
    · refine xaload_n C 0 rfl rfl dX1_grow_10 ?_
      refine xiload_n C 2 rfl rfl dX1_grow_11 ?_
      obtain ⟨r12, G12, hc12, h⟩ := bd_some h
      refine xVi C (As := [.int x2]) (rest := []) (kX1_kindOf a0 hc12) a0.1 rfl rfl w_340 mvX1_kindOf mwX1_kindOf rfl ⟨Nat.le_of_ble_eq_true rfl, Nat.le_of_ble_eq_true rfl⟩ ⟨Nat.le_refl _, Nat.le_refl _⟩ (Nat.le_of_ble_eq_true rfl) dX1_grow_12 ?_
      refine xistore_n C (lv' := [(3, .int r12), (0, .ref (ad q0)), (1, .int x1), (2, .int x2)]) rfl (by decide) rfl dX1_grow_15 ?_
      refine xiload_n C 0 rfl rfl dX1_grow_16 ?_
      refine xiconst C (v := 3) dX1_grow_17 (by decide) ?_
      refine xicmp_ne C (tgt := 29) h (by decide) dX1_grow_18 (fun h => ?_) (fun h => ?_)
      · refine xaload_n C 1 rfl rfl dX1_grow_21 ?_
        refine xiload_n C 3 rfl rfl dX1_grow_22 ?_
        obtain ⟨G23, hc23, h⟩ := bv_some h
        refine xVv C (As := [.int x2]) (rest := []) (kX1_growOlder a0 hc23) a0.1 rfl rfl w_394 mvX1_growOlder mwX1_growOlder rfl ⟨Nat.le_of_ble_eq_true rfl, Nat.le_of_ble_eq_true rfl⟩ ⟨Nat.le_refl _, Nat.le_refl _⟩ (Nat.le_of_ble_eq_true rfl) dX1_grow_23 ?_
        refine xgoto C (tgt := 77) (by decide) dX1_grow_26 ?_
        refine xiinc C (v := (x2 + 1)) (lv' := [(2, .int (x2 + 1)), (3, .int r12), (0, .ref (ad q0)), (1, .int x1)]) 3 rfl rfl (by decide) rfl dX1_grow_77 ?_
        refine xgoto C (tgt := 2) (by decide) dX1_grow_80 ?_
        refine xsub C (lv' := [(0, .ref (ad q0)), (1, .int x1), (2, .int (x2 + 1))]) [2, 3, 0] rfl ?_
        exact hrec2 (x2 + 1) G23 h
      · refine xiload_n C 0 rfl rfl dX1_grow_29 ?_
        refine xif_ne C (tgt := 60) h (by decide) dX1_grow_30 (fun h => ?_) (fun h => ?_)
        · refine xiload_n C 2 rfl rfl dX1_grow_33 ?_
          refine xiconst C (v := 4) dX1_grow_34 (by decide) ?_
          refine xirem C dX1_grow_35 (by decide) ?_
          refine xif_ne C (tgt := 60) h (by decide) dX1_grow_36 (fun h => ?_) (fun h => ?_)
          · refine xaload_n C 1 rfl rfl dX1_grow_39 ?_
            refine xiload_n C 3 rfl rfl dX1_grow_40 ?_
            refine xiconst C (v := 0) dX1_grow_41 (by decide) ?_
            refine xaload_n C 1 rfl rfl dX1_grow_42 ?_
            refine xiload_n C 3 rfl rfl dX1_grow_43 ?_
            obtain ⟨r44, G44, hc44, h⟩ := bd_some h
            refine xVi C (As := [.int x2]) (rest := [.int 0, .int x2, .ref (ad q0)]) (kX1_thicknessOf a0 hc44) a0.1 rfl rfl w_402 mvX1_thicknessOf mwX1_thicknessOf rfl ⟨Nat.le_of_ble_eq_true rfl, Nat.le_of_ble_eq_true rfl⟩ ⟨Nat.le_refl _, Nat.le_refl _⟩ (Nat.le_of_ble_eq_true rfl) dX1_grow_44 ?_
            refine xiconst C (v := 1) dX1_grow_47 (by decide) ?_
            refine xiadd C dX1_grow_48 ?_
            refine xbipush C (v := 9) dX1_grow_49 (by decide) ?_
            refine xmmin C w_403 w_325 w_12 w_326 ⟨Nat.le_of_ble_eq_true rfl, Nat.le_of_ble_eq_true rfl⟩ ⟨Nat.le_refl _, Nat.le_refl _⟩ dX1_grow_51 ?_
            obtain ⟨G54, hc54, h⟩ := bv_some h
            refine xVv C (As := [.int x2, .int 0, .int (if 9 < (r44 + 1) then 9 else (r44 + 1))]) (rest := []) (kX1_changeChain a0 hc54) a0.1 rfl rfl w_63 mvX1_changeChain mwX1_changeChain rfl ⟨Nat.le_of_ble_eq_true rfl, Nat.le_of_ble_eq_true rfl⟩ ⟨Nat.le_refl _, Nat.le_refl _⟩ (Nat.le_of_ble_eq_true rfl) dX1_grow_54 ?_
            refine xgoto C (tgt := 77) (by decide) dX1_grow_57 ?_
            refine xiinc C (v := (x2 + 1)) (lv' := [(2, .int (x2 + 1)), (3, .int r12), (0, .ref (ad q0)), (1, .int x1)]) 3 rfl rfl (by decide) rfl dX1_grow_77 ?_
            refine xgoto C (tgt := 2) (by decide) dX1_grow_80 ?_
            refine xsub C (lv' := [(0, .ref (ad q0)), (1, .int x1), (2, .int (x2 + 1))]) [2, 3, 0] rfl ?_
            exact hrec2 (x2 + 1) G54 h
          · refine xsub C (lv' := [(0, .ref (ad q0)), (1, .int x1), (2, .int x2), (3, .int r12)]) [1, 2, 3, 0] rfl ?_
            exact wX1_grow_60 C q0 x1 x2 r12 hrec2 G12 a0 h
        · refine xsub C (lv' := [(0, .ref (ad q0)), (1, .int x1), (2, .int x2), (3, .int r12)]) [1, 2, 3, 0] rfl ?_
          exact wX1_grow_60 C q0 x1 x2 r12 hrec2 G12 a0 h
theorem kX1_grow  {q0 : Nat} {x1 : Int32} (a0 : A1 kd NP q0) {G : Mem} (h : fX1_grow q0 x1 G = some G') : xMv l D cy ad kd NP A yX1_grow cX1_grow 4 none 3 66 [.ref (ad q0), .int x1] G G' := by
  refine xMv_of trivial (by decide +kernel) (Nat.le_of_ble_eq_true rfl) (fun p e s m args below meth c C => ?_)
  have C : xC p s m args meth c cX1_grow RX1 4 none D cy := C
  refine xsub C (lv' := [(0, .ref (ad q0)), (1, .int x1)]) [0, 1] rfl ?_
  unfold fX1_grow at h
  refine xiconst C (v := 0) dX1_grow_0 (by decide) ?_
  refine xistore_n C (lv' := [(2, .int 0), (0, .ref (ad q0)), (1, .int x1)]) rfl (by decide) rfl dX1_grow_1 ?_
  refine xsub C (lv' := [(0, .ref (ad q0)), (1, .int x1), (2, .int 0)]) [1, 2, 0] rfl ?_
  exact wX1_grow_2 C q0 x1 a0 _ 0 G h
/-- HedgeChains$Contract.make(III)V -/
theorem kX0_make  {q0 : Nat} {x1 : Int32} {x2 : Int32} {x3 : Int32} (a0 : A0 kd NP q0) {G : Mem} (h : fX0_make q0 x1 x2 x3 G = some G') : xMv l D cy ad kd NP A yX0_make cX0_make 4 none 0 0 [.ref (ad q0), .int x1, .int x2, .int x3] G G' := by
  refine xMv_of trivial (by decide +kernel) (Nat.le_of_ble_eq_true rfl) (fun p e s m args below meth c C => ?_)
  have C : xC p s m args meth c cX0_make RX0 4 none D cy := C
  refine xsub C (lv' := [(0, .ref (ad q0)), (1, .int x1), (2, .int x2), (3, .int x3)]) [0, 1, 2, 3] rfl ?_
  unfold fX0_make at h
  refine xaload_n C 0 rfl rfl dX0_make_0 ?_
  refine xiconst C (v := 1) dX0_make_1 (by decide) ?_
  refine xp_0_made C a0 (Or.inr rfl) w_76 dX0_make_2 ?_
  generalize mset G q0 0 1 = G2 at h ⊢
  replace h := lt_go h
  refine xaload_n C 0 rfl rfl dX0_make_5 ?_
  refine xiload_n C 1 rfl rfl dX0_make_6 ?_
  refine xp_0_price C a0 w_80 dX0_make_7 ?_
  generalize mset G2 q0 1 x1 = G7 at h ⊢
  replace h := lt_go h
  refine xaload_n C 0 rfl rfl dX0_make_10 ?_
  refine xiload_n C 2 rfl rfl dX0_make_11 ?_
  refine xp_0_lastWeek C a0 w_83 dX0_make_12 ?_
  generalize mset G7 q0 2 x2 = G12 at h ⊢
  replace h := lt_go h
  refine xaload_n C 0 rfl rfl dX0_make_15 ?_
  refine xiload_n C 3 rfl rfl dX0_make_16 ?_
  refine xp_0_fine C a0 w_87 dX0_make_17 ?_
  generalize mset G12 q0 3 x3 = G17 at h ⊢
  replace h := lt_go h
  cases h
  exact xvret C rfl dX0_make_20
/-- HedgeChains$Hedge.runFrom(I)I -/
theorem wX1_runFrom_2 {r : Int32} (C : xC p s m args meth c cX1_runFrom RX1 3 (some .int) D cy) (q0 : Nat) (x1 : Int32) (a0 : A1 kd NP q0) : ∀ (n : Nat) (x2 : Int32) (G : Mem) (h : itr n (FX1_runFrom_2 q0 x1) (x2, G) = some (r, G')), xX p l e (xR 2 42) s m args below meth c A s.heap D cy ad kd NP 3 0 0 (xQi below D cy ad kd NP A args s r G') G 2 [(0, .ref (ad q0)), (1, .int x1), (2, .int x2)] [] := by
  intro n
  induction n with
  | zero =>
    intro x2 G h
    have h : none = some (r, G') := h
    cases h
  | succ n ih =>
    intro x2 G h
    have h : bX1_runFrom_2 q0 x1 (itr n (FX1_runFrom_2 q0 x1)) x2 G = some (r, G') := h
    have hrec2 : ∀ (x2 : Int32) (G : Mem), itr n (FX1_runFrom_2 q0 x1) (x2, G) = some (r, G') → xX p l e (xR 2 42) s m args below meth c A s.heap D cy ad kd NP 3 0 0 (xQi below D cy ad kd NP A args s r G') G 2 [(0, .ref (ad q0)), (1, .int x1), (2, .int x2)] [] := fun x2 G h => ih x2 G h
    unfold bX1_runFrom_2 at h
    refine xiload_n C 2 rfl rfl dX1_runFrom_2 ?_
    refine xaload_n C 0 rfl rfl dX1_runFrom_3 ?_
    refine xg_1_length C a0.1 w_45 dX1_runFrom_4 ?_
    refine xicmp_ge C (tgt := 27) h (by decide) dX1_runFrom_7 (fun h => ?_) (fun h => ?_)
    · refine xiload_n C 2 rfl rfl dX1_runFrom_27 ?_
      cases h
      exact xiret C rfl dX1_runFrom_28
    · refine xaload_n C 0 rfl rfl dX1_runFrom_10 ?_
      refine xiload_n C 1 rfl rfl dX1_runFrom_11 ?_
      refine xiload_n C 2 rfl rfl dX1_runFrom_12 ?_
      refine xiadd C dX1_runFrom_13 ?_
      obtain ⟨r14, G14, hc14, h⟩ := bd_some h
      refine xVi C (As := [.int (x1 + x2)]) (rest := []) (kX1_kindOf a0 hc14) a0.1 rfl rfl w_340 mvX1_kindOf mwX1_kindOf rfl ⟨Nat.le_of_ble_eq_true rfl, Nat.le_of_ble_eq_true rfl⟩ ⟨Nat.le_refl _, Nat.le_refl _⟩ (Nat.le_of_ble_eq_true rfl) dX1_runFrom_14 ?_
      refine xiconst C (v := 1) dX1_runFrom_17 (by decide) ?_
      refine xicmp_ne C (tgt := 27) h (by decide) dX1_runFrom_18 (fun h => ?_) (fun h => ?_)
      · refine xiinc C (v := (x2 + 1)) (lv' := [(2, .int (x2 + 1)), (0, .ref (ad q0)), (1, .int x1)]) 2 rfl rfl (by decide) rfl dX1_runFrom_21 ?_
        refine xgoto C (tgt := 2) (by decide) dX1_runFrom_24 ?_
        refine xsub C (lv' := [(0, .ref (ad q0)), (1, .int x1), (2, .int (x2 + 1))]) [1, 2, 0] rfl ?_
        exact hrec2 (x2 + 1) G14 h
      · refine xiload_n C 2 rfl rfl dX1_runFrom_27 ?_
        cases h
        exact xiret C rfl dX1_runFrom_28
theorem kX1_runFrom {r : Int32}  {q0 : Nat} {x1 : Int32} (a0 : A1 kd NP q0) {G : Mem} (h : fX1_runFrom q0 x1 G = some (r, G')) : xMi l D cy ad kd NP A yX1_runFrom cX1_runFrom 3 (some .int) 2 42 [.ref (ad q0), .int x1] G r G' := by
  refine xMi_of trivial (by decide +kernel) (Nat.le_of_ble_eq_true rfl) (fun p e s m args below meth c C => ?_)
  have C : xC p s m args meth c cX1_runFrom RX1 3 (some .int) D cy := C
  refine xsub C (lv' := [(0, .ref (ad q0)), (1, .int x1)]) [0, 1] rfl ?_
  unfold fX1_runFrom at h
  refine xiconst C (v := 0) dX1_runFrom_0 (by decide) ?_
  refine xistore_n C (lv' := [(2, .int 0), (0, .ref (ad q0)), (1, .int x1)]) rfl (by decide) rfl dX1_runFrom_1 ?_
  refine xsub C (lv' := [(0, .ref (ad q0)), (1, .int x1), (2, .int 0)]) [1, 2, 0] rfl ?_
  exact wX1_runFrom_2 C q0 x1 a0 _ 0 G h
/-- HedgeChains$Hedge.longestRunBegin()I -/
theorem wX1_longestRunBegin_7 {r : Int32} (C : xC p s m args meth c cX1_longestRunBegin RX1 5 (some .int) D cy) (q0 : Nat) (a0 : A1 kd NP q0) : ∀ (n : Nat) (x1 : Int32) (x2 : Int32) (x3 : Int32) (G : Mem) (h : itr n (FX1_longestRunBegin_7 q0) (x1, x2, x3, G) = some (r, G')), xX p l e (xR 3 64) s m args below meth c A s.heap D cy ad kd NP 5 0 0 (xQi below D cy ad kd NP A args s r G') G 7 [(0, .ref (ad q0)), (1, .int x1), (2, .int x2), (3, .int x3)] [] := by
  intro n
  induction n with
  | zero =>
    intro x1 x2 x3 G h
    have h : none = some (r, G') := h
    cases h
  | succ n ih =>
    intro x1 x2 x3 G h
    have h : bX1_longestRunBegin_7 q0 (itr n (FX1_longestRunBegin_7 q0)) x1 x2 x3 G = some (r, G') := h
    have hrec7 : ∀ (x1 : Int32) (x2 : Int32) (x3 : Int32) (G : Mem), itr n (FX1_longestRunBegin_7 q0) (x1, x2, x3, G) = some (r, G') → xX p l e (xR 3 64) s m args below meth c A s.heap D cy ad kd NP 5 0 0 (xQi below D cy ad kd NP A args s r G') G 7 [(0, .ref (ad q0)), (1, .int x1), (2, .int x2), (3, .int x3)] [] := fun x1 x2 x3 G h => ih x1 x2 x3 G h
    unfold bX1_longestRunBegin_7 at h
    refine xiload_n C 3 rfl rfl dX1_longestRunBegin_7 ?_
    refine xaload_n C 0 rfl rfl dX1_longestRunBegin_8 ?_
    refine xg_1_length C a0.1 w_45 dX1_longestRunBegin_9 ?_
    refine xicmp_ge C (tgt := 39) h (by decide) dX1_longestRunBegin_12 (fun h => ?_) (fun h => ?_)
    · refine xiload_n C 1 rfl rfl dX1_longestRunBegin_39 ?_
      cases h
      exact xiret C rfl dX1_longestRunBegin_40
    · refine xaload_n C 0 rfl rfl dX1_longestRunBegin_15 ?_
      refine xiload_n C 3 rfl rfl dX1_longestRunBegin_16 ?_
      obtain ⟨r17, G17, hc17, h⟩ := bd_some h
      refine xVi C (As := [.int x3]) (rest := []) (kX1_runFrom a0 hc17) a0.1 rfl rfl w_545 mvX1_runFrom mwX1_runFrom rfl ⟨Nat.le_of_ble_eq_true rfl, Nat.le_of_ble_eq_true rfl⟩ ⟨Nat.le_refl _, Nat.le_refl _⟩ (Nat.le_of_ble_eq_true rfl) dX1_longestRunBegin_17 ?_
      refine xistore C (lv' := [(4, .int r17), (0, .ref (ad q0)), (1, .int x1), (2, .int x2), (3, .int x3)]) (by decide) rfl dX1_longestRunBegin_20 ?_
      refine xiload C 0 rfl dX1_longestRunBegin_22 ?_
      refine xiload_n C 3 rfl rfl dX1_longestRunBegin_24 ?_
      refine xicmp_le C (tgt := 33) h (by decide) dX1_longestRunBegin_25 (fun h => ?_) (fun h => ?_)
      · refine xiinc C (v := (x3 + 1)) (lv' := [(3, .int (x3 + 1)), (4, .int r17), (0, .ref (ad q0)), (1, .int x1), (2, .int x2)]) 4 rfl rfl (by decide) rfl dX1_longestRunBegin_33 ?_
        refine xgoto C (tgt := 7) (by decide) dX1_longestRunBegin_36 ?_
        refine xsub C (lv' := [(0, .ref (ad q0)), (1, .int x1), (2, .int x2), (3, .int (x3 + 1))]) [2, 3, 4, 0] rfl ?_
        exact hrec7 x1 x2 (x3 + 1) G17 h
      · refine xiload C 0 rfl dX1_longestRunBegin_28 ?_
        refine xistore_n C (lv' := [(2, .int r17), (4, .int r17), (0, .ref (ad q0)), (1, .int x1), (3, .int x3)]) rfl (by decide) rfl dX1_longestRunBegin_30 ?_
        refine xiload_n C 4 rfl rfl dX1_longestRunBegin_31 ?_
        refine xistore_n C (lv' := [(1, .int x3), (2, .int r17), (4, .int r17), (0, .ref (ad q0)), (3, .int x3)]) rfl (by decide) rfl dX1_longestRunBegin_32 ?_
        refine xiinc C (v := (x3 + 1)) (lv' := [(3, .int (x3 + 1)), (1, .int x3), (2, .int r17), (4, .int r17), (0, .ref (ad q0))]) 4 rfl rfl (by decide) rfl dX1_longestRunBegin_33 ?_
        refine xgoto C (tgt := 7) (by decide) dX1_longestRunBegin_36 ?_
        refine xsub C (lv' := [(0, .ref (ad q0)), (1, .int x3), (2, .int r17), (3, .int (x3 + 1))]) [4, 1, 2, 0] rfl ?_
        exact hrec7 x3 r17 (x3 + 1) G17 h
theorem kX1_longestRunBegin {r : Int32}  {q0 : Nat} (a0 : A1 kd NP q0) {G : Mem} (h : fX1_longestRunBegin q0 G = some (r, G')) : xMi l D cy ad kd NP A yX1_longestRunBegin cX1_longestRunBegin 5 (some .int) 3 64 [.ref (ad q0)] G r G' := by
  refine xMi_of trivial (by decide +kernel) (Nat.le_of_ble_eq_true rfl) (fun p e s m args below meth c C => ?_)
  have C : xC p s m args meth c cX1_longestRunBegin RX1 5 (some .int) D cy := C
  refine xsub C (lv' := [(0, .ref (ad q0))]) [0] rfl ?_
  unfold fX1_longestRunBegin at h
  refine xbipush C (v := (-9)) dX1_longestRunBegin_0 (by decide) ?_
  refine xistore_n C (lv' := [(1, .int (-9)), (0, .ref (ad q0))]) rfl (by decide) rfl dX1_longestRunBegin_2 ?_
  refine xiconst C (v := 0) dX1_longestRunBegin_3 (by decide) ?_
  refine xistore_n C (lv' := [(2, .int 0), (1, .int (-9)), (0, .ref (ad q0))]) rfl (by decide) rfl dX1_longestRunBegin_4 ?_
  refine xiconst C (v := 0) dX1_longestRunBegin_5 (by decide) ?_
  refine xistore_n C (lv' := [(3, .int 0), (2, .int 0), (1, .int (-9)), (0, .ref (ad q0))]) rfl (by decide) rfl dX1_longestRunBegin_6 ?_
  refine xsub C (lv' := [(0, .ref (ad q0)), (1, .int (-9)), (2, .int 0), (3, .int 0)]) [3, 2, 1, 0] rfl ?_
  exact wX1_longestRunBegin_7 C q0 a0 _ (-9) 0 0 G h
/-- HedgeChains$Hedge.workToLay()I -/
theorem wX1_workToLay_4 {r : Int32} (C : xC p s m args meth c cX1_workToLay RX1 3 (some .int) D cy) (q0 : Nat) (a0 : A1 kd NP q0) : ∀ (n : Nat) (x1 : Int32) (x2 : Int32) (G : Mem) (h : itr n (FX1_workToLay_4 q0) (x1, x2, G) = some (r, G')), xX p l e (xR 2 42) s m args below meth c A s.heap D cy ad kd NP 3 0 0 (xQi below D cy ad kd NP A args s r G') G 4 [(0, .ref (ad q0)), (1, .int x1), (2, .int x2)] [] := by
  intro n
  induction n with
  | zero =>
    intro x1 x2 G h
    have h : none = some (r, G') := h
    cases h
  | succ n ih =>
    intro x1 x2 G h
    have h : bX1_workToLay_4 q0 (itr n (FX1_workToLay_4 q0)) x1 x2 G = some (r, G') := h
    have hrec4 : ∀ (x1 : Int32) (x2 : Int32) (G : Mem), itr n (FX1_workToLay_4 q0) (x1, x2, G) = some (r, G') → xX p l e (xR 2 42) s m args below meth c A s.heap D cy ad kd NP 3 0 0 (xQi below D cy ad kd NP A args s r G') G 4 [(0, .ref (ad q0)), (1, .int x1), (2, .int x2)] [] := fun x1 x2 G h => ih x1 x2 G h
    unfold bX1_workToLay_4 at h
    refine xiload_n C 2 rfl rfl dX1_workToLay_4 ?_
    refine xaload_n C 0 rfl rfl dX1_workToLay_5 ?_
    refine xg_1_length C a0.1 w_45 dX1_workToLay_6 ?_
    refine xicmp_ge C (tgt := 34) h (by decide) dX1_workToLay_9 (fun h => ?_) (fun h => ?_)
    · refine xiload_n C 1 rfl rfl dX1_workToLay_34 ?_
      cases h
      exact xiret C rfl dX1_workToLay_35
    · refine xaload_n C 0 rfl rfl dX1_workToLay_12 ?_
      refine xiload_n C 2 rfl rfl dX1_workToLay_13 ?_
      obtain ⟨r14, G14, hc14, h⟩ := bd_some h
      refine xVi C (As := [.int x2]) (rest := []) (kX1_isToLay a0 hc14) a0.1 rfl rfl w_564 mvX1_isToLay mwX1_isToLay rfl ⟨Nat.le_of_ble_eq_true rfl, Nat.le_of_ble_eq_true rfl⟩ ⟨Nat.le_refl _, Nat.le_refl _⟩ (Nat.le_of_ble_eq_true rfl) dX1_workToLay_14 ?_
      refine xif_eq C (tgt := 28) h (by decide) dX1_workToLay_17 (fun h => ?_) (fun h => ?_)
      · refine xiinc C (v := (x2 + 1)) (lv' := [(2, .int (x2 + 1)), (0, .ref (ad q0)), (1, .int x1)]) 2 rfl rfl (by decide) rfl dX1_workToLay_28 ?_
        refine xgoto C (tgt := 4) (by decide) dX1_workToLay_31 ?_
        refine xsub C (lv' := [(0, .ref (ad q0)), (1, .int x1), (2, .int (x2 + 1))]) [1, 2, 0] rfl ?_
        exact hrec4 x1 (x2 + 1) G14 h
      · refine xiload_n C 1 rfl rfl dX1_workToLay_20 ?_
        refine xaload_n C 0 rfl rfl dX1_workToLay_21 ?_
        refine xiload_n C 2 rfl rfl dX1_workToLay_22 ?_
        obtain ⟨r23, G23, hc23, h⟩ := bd_some h
        refine xVi C (As := [.int x2]) (rest := [.int x1]) (kX1_thicknessOf a0 hc23) a0.1 rfl rfl w_402 mvX1_thicknessOf mwX1_thicknessOf rfl ⟨Nat.le_of_ble_eq_true rfl, Nat.le_of_ble_eq_true rfl⟩ ⟨Nat.le_refl _, Nat.le_refl _⟩ (Nat.le_of_ble_eq_true rfl) dX1_workToLay_23 ?_
        refine xiadd C dX1_workToLay_26 ?_
        refine xistore_n C (lv' := [(1, .int (x1 + r23)), (0, .ref (ad q0)), (2, .int x2)]) rfl (by decide) rfl dX1_workToLay_27 ?_
        refine xiinc C (v := (x2 + 1)) (lv' := [(2, .int (x2 + 1)), (1, .int (x1 + r23)), (0, .ref (ad q0))]) 2 rfl rfl (by decide) rfl dX1_workToLay_28 ?_
        refine xgoto C (tgt := 4) (by decide) dX1_workToLay_31 ?_
        refine xsub C (lv' := [(0, .ref (ad q0)), (1, .int (x1 + r23)), (2, .int (x2 + 1))]) [2, 1, 0] rfl ?_
        exact hrec4 (x1 + r23) (x2 + 1) G23 h
theorem kX1_workToLay {r : Int32}  {q0 : Nat} (a0 : A1 kd NP q0) {G : Mem} (h : fX1_workToLay q0 G = some (r, G')) : xMi l D cy ad kd NP A yX1_workToLay cX1_workToLay 3 (some .int) 2 42 [.ref (ad q0)] G r G' := by
  refine xMi_of trivial (by decide +kernel) (Nat.le_of_ble_eq_true rfl) (fun p e s m args below meth c C => ?_)
  have C : xC p s m args meth c cX1_workToLay RX1 3 (some .int) D cy := C
  refine xsub C (lv' := [(0, .ref (ad q0))]) [0] rfl ?_
  unfold fX1_workToLay at h
  refine xiconst C (v := 0) dX1_workToLay_0 (by decide) ?_
  refine xistore_n C (lv' := [(1, .int 0), (0, .ref (ad q0))]) rfl (by decide) rfl dX1_workToLay_1 ?_
  refine xiconst C (v := 0) dX1_workToLay_2 (by decide) ?_
  refine xistore_n C (lv' := [(2, .int 0), (1, .int 0), (0, .ref (ad q0))]) rfl (by decide) rfl dX1_workToLay_3 ?_
  refine xsub C (lv' := [(0, .ref (ad q0)), (1, .int 0), (2, .int 0)]) [2, 1, 0] rfl ?_
  exact wX1_workToLay_4 C q0 a0 _ 0 0 G h
/-- HedgeChains$Hedge.stakesToLay()I -/
theorem wX1_stakesToLay_4 {r : Int32} (C : xC p s m args meth c cX1_stakesToLay RX1 3 (some .int) D cy) (q0 : Nat) (a0 : A1 kd NP q0) : ∀ (n : Nat) (x1 : Int32) (x2 : Int32) (G : Mem) (h : itr n (FX1_stakesToLay_4 q0) (x1, x2, G) = some (r, G')), xX p l e (xR 2 42) s m args below meth c A s.heap D cy ad kd NP 3 0 0 (xQi below D cy ad kd NP A args s r G') G 4 [(0, .ref (ad q0)), (1, .int x1), (2, .int x2)] [] := by
  intro n
  induction n with
  | zero =>
    intro x1 x2 G h
    have h : none = some (r, G') := h
    cases h
  | succ n ih =>
    intro x1 x2 G h
    have h : bX1_stakesToLay_4 q0 (itr n (FX1_stakesToLay_4 q0)) x1 x2 G = some (r, G') := h
    have hrec4 : ∀ (x1 : Int32) (x2 : Int32) (G : Mem), itr n (FX1_stakesToLay_4 q0) (x1, x2, G) = some (r, G') → xX p l e (xR 2 42) s m args below meth c A s.heap D cy ad kd NP 3 0 0 (xQi below D cy ad kd NP A args s r G') G 4 [(0, .ref (ad q0)), (1, .int x1), (2, .int x2)] [] := fun x1 x2 G h => ih x1 x2 G h
    unfold bX1_stakesToLay_4 at h
    refine xiload_n C 2 rfl rfl dX1_stakesToLay_4 ?_
    refine xaload_n C 0 rfl rfl dX1_stakesToLay_5 ?_
    refine xg_1_length C a0.1 w_45 dX1_stakesToLay_6 ?_
    refine xicmp_ge C (tgt := 29) h (by decide) dX1_stakesToLay_9 (fun h => ?_) (fun h => ?_)
    · refine xiload_n C 1 rfl rfl dX1_stakesToLay_29 ?_
      cases h
      exact xiret C rfl dX1_stakesToLay_30
    · refine xaload_n C 0 rfl rfl dX1_stakesToLay_12 ?_
      refine xiload_n C 2 rfl rfl dX1_stakesToLay_13 ?_
      obtain ⟨r14, G14, hc14, h⟩ := bd_some h
      refine xVi C (As := [.int x2]) (rest := []) (kX1_isToLay a0 hc14) a0.1 rfl rfl w_564 mvX1_isToLay mwX1_isToLay rfl ⟨Nat.le_of_ble_eq_true rfl, Nat.le_of_ble_eq_true rfl⟩ ⟨Nat.le_refl _, Nat.le_refl _⟩ (Nat.le_of_ble_eq_true rfl) dX1_stakesToLay_14 ?_
      refine xif_eq C (tgt := 23) h (by decide) dX1_stakesToLay_17 (fun h => ?_) (fun h => ?_)
      · refine xiinc C (v := (x2 + 1)) (lv' := [(2, .int (x2 + 1)), (0, .ref (ad q0)), (1, .int x1)]) 2 rfl rfl (by decide) rfl dX1_stakesToLay_23 ?_
        refine xgoto C (tgt := 4) (by decide) dX1_stakesToLay_26 ?_
        refine xsub C (lv' := [(0, .ref (ad q0)), (1, .int x1), (2, .int (x2 + 1))]) [1, 2, 0] rfl ?_
        exact hrec4 x1 (x2 + 1) G14 h
      · refine xiinc C (v := (x1 + 2)) (lv' := [(1, .int (x1 + 2)), (0, .ref (ad q0)), (2, .int x2)]) 1 rfl rfl (by decide) rfl dX1_stakesToLay_20 ?_
        refine xiinc C (v := (x2 + 1)) (lv' := [(2, .int (x2 + 1)), (1, .int (x1 + 2)), (0, .ref (ad q0))]) 2 rfl rfl (by decide) rfl dX1_stakesToLay_23 ?_
        refine xgoto C (tgt := 4) (by decide) dX1_stakesToLay_26 ?_
        refine xsub C (lv' := [(0, .ref (ad q0)), (1, .int (x1 + 2)), (2, .int (x2 + 1))]) [2, 1, 0] rfl ?_
        exact hrec4 (x1 + 2) (x2 + 1) G14 h
theorem kX1_stakesToLay {r : Int32}  {q0 : Nat} (a0 : A1 kd NP q0) {G : Mem} (h : fX1_stakesToLay q0 G = some (r, G')) : xMi l D cy ad kd NP A yX1_stakesToLay cX1_stakesToLay 3 (some .int) 2 42 [.ref (ad q0)] G r G' := by
  refine xMi_of trivial (by decide +kernel) (Nat.le_of_ble_eq_true rfl) (fun p e s m args below meth c C => ?_)
  have C : xC p s m args meth c cX1_stakesToLay RX1 3 (some .int) D cy := C
  refine xsub C (lv' := [(0, .ref (ad q0))]) [0] rfl ?_
  unfold fX1_stakesToLay at h
  refine xiconst C (v := 0) dX1_stakesToLay_0 (by decide) ?_
  refine xistore_n C (lv' := [(1, .int 0), (0, .ref (ad q0))]) rfl (by decide) rfl dX1_stakesToLay_1 ?_
  refine xiconst C (v := 0) dX1_stakesToLay_2 (by decide) ?_
  refine xistore_n C (lv' := [(2, .int 0), (1, .int 0), (0, .ref (ad q0))]) rfl (by decide) rfl dX1_stakesToLay_3 ?_
  refine xsub C (lv' := [(0, .ref (ad q0)), (1, .int 0), (2, .int 0)]) [2, 1, 0] rfl ?_
  exact wX1_stakesToLay_4 C q0 a0 _ 0 0 G h
/-- HedgeChains$Hedge.stakesOf(I)I -/
theorem wX1_stakesOf_4 {r : Int32} (C : xC p s m args meth c cX1_stakesOf RX1 3 (some .int) D cy) : ∀ (n : Nat) (x1 : Int32) (x2 : Int32) (G : Mem) (h : itr n (FX1_stakesOf_4) (x1, x2, G) = some (r, G')), xX p l e (xR 0 0) s m args below meth c A s.heap D cy ad kd NP 3 0 0 (xQi below D cy ad kd NP A args s r G') G 4 [(1, .int x1), (2, .int x2)] [] := by
  intro n
  induction n with
  | zero =>
    intro x1 x2 G h
    have h : none = some (r, G') := h
    cases h
  | succ n ih =>
    intro x1 x2 G h
    have h : bX1_stakesOf_4 (itr n (FX1_stakesOf_4)) x1 x2 G = some (r, G') := h
    have hrec4 : ∀ (x1 : Int32) (x2 : Int32) (G : Mem), itr n (FX1_stakesOf_4) (x1, x2, G) = some (r, G') → xX p l e (xR 0 0) s m args below meth c A s.heap D cy ad kd NP 3 0 0 (xQi below D cy ad kd NP A args s r G') G 4 [(1, .int x1), (2, .int x2)] [] := fun x1 x2 G h => ih x1 x2 G h
    unfold bX1_stakesOf_4 at h
    refine xiload_n C 1 rfl rfl dX1_stakesOf_4 ?_
    refine xiconst C (v := 3) dX1_stakesOf_5 (by decide) ?_
    refine xicmp_lt C (tgt := 19) h (by decide) dX1_stakesOf_6 (fun h => ?_) (fun h => ?_)
    · refine xiload_n C 0 rfl rfl dX1_stakesOf_19 ?_
      cases h
      exact xiret C rfl dX1_stakesOf_20
    · refine xiload_n C 0 rfl rfl dX1_stakesOf_9 ?_
      refine xiload_n C 1 rfl rfl dX1_stakesOf_10 ?_
      refine xiadd C dX1_stakesOf_11 ?_
      refine xistore_n C (lv' := [(1, .int (x1 + x2)), (2, .int x2)]) rfl (by decide) rfl dX1_stakesOf_12 ?_
      refine xiinc C (v := (x2 + Int32.ofInt (-2))) (lv' := [(2, .int (x2 + Int32.ofInt (-2))), (1, .int (x1 + x2))]) 1 rfl rfl (by decide) rfl dX1_stakesOf_13 ?_
      refine xgoto C (tgt := 4) (by decide) dX1_stakesOf_16 ?_
      refine xsub C (lv' := [(1, .int (x1 + x2)), (2, .int (x2 + Int32.ofInt (-2)))]) [1, 0] rfl ?_
      exact hrec4 (x1 + x2) (x2 + Int32.ofInt (-2)) G h
theorem kX1_stakesOf {r : Int32}  {x0 : Int32} {G : Mem} (h : fX1_stakesOf x0 G = some (r, G')) : xMi l D cy ad kd NP A yX1_stakesOf cX1_stakesOf 3 (some .int) 0 0 [.int x0] G r G' := by
  refine xMi_of trivial (by decide +kernel) (Nat.le_of_ble_eq_true rfl) (fun p e s m args below meth c C => ?_)
  have C : xC p s m args meth c cX1_stakesOf RX1 3 (some .int) D cy := C
  refine xsub C (lv' := [(0, .int x0)]) [0] rfl ?_
  unfold fX1_stakesOf at h
  refine xiconst C (v := 0) dX1_stakesOf_0 (by decide) ?_
  refine xistore_n C (lv' := [(1, .int 0), (0, .int x0)]) rfl (by decide) rfl dX1_stakesOf_1 ?_
  refine xiload_n C 1 rfl rfl dX1_stakesOf_2 ?_
  refine xistore_n C (lv' := [(2, .int x0), (1, .int 0), (0, .int x0)]) rfl (by decide) rfl dX1_stakesOf_3 ?_
  refine xsub C (lv' := [(1, .int 0), (2, .int x0)]) [1, 0] rfl ?_
  exact wX1_stakesOf_4 C _ 0 x0 G h
/-- HedgeChains$Hedge.stakesToCut()I -/
theorem wX1_stakesToCut_4 {r : Int32} (C : xC p s m args meth c cX1_stakesToCut RX1 3 (some .int) D cy) (q0 : Nat) (a0 : A1 kd NP q0) : ∀ (n : Nat) (x1 : Int32) (x2 : Int32) (G : Mem) (h : itr n (FX1_stakesToCut_4 q0) (x1, x2, G) = some (r, G')), xX p l e (xR 2 42) s m args below meth c A s.heap D cy ad kd NP 3 0 0 (xQi below D cy ad kd NP A args s r G') G 4 [(0, .ref (ad q0)), (1, .int x1), (2, .int x2)] [] := by
  intro n
  induction n with
  | zero =>
    intro x1 x2 G h
    have h : none = some (r, G') := h
    cases h
  | succ n ih =>
    intro x1 x2 G h
    have h : bX1_stakesToCut_4 q0 (itr n (FX1_stakesToCut_4 q0)) x1 x2 G = some (r, G') := h
    have hrec4 : ∀ (x1 : Int32) (x2 : Int32) (G : Mem), itr n (FX1_stakesToCut_4 q0) (x1, x2, G) = some (r, G') → xX p l e (xR 2 42) s m args below meth c A s.heap D cy ad kd NP 3 0 0 (xQi below D cy ad kd NP A args s r G') G 4 [(0, .ref (ad q0)), (1, .int x1), (2, .int x2)] [] := fun x1 x2 G h => ih x1 x2 G h
    unfold bX1_stakesToCut_4 at h
    refine xiload_n C 2 rfl rfl dX1_stakesToCut_4 ?_
    refine xaload_n C 0 rfl rfl dX1_stakesToCut_5 ?_
    refine xg_1_length C a0.1 w_45 dX1_stakesToCut_6 ?_
    refine xicmp_ge C (tgt := 37) h (by decide) dX1_stakesToCut_9 (fun h => ?_) (fun h => ?_)
    · refine xiload_n C 1 rfl rfl dX1_stakesToCut_37 ?_
      cases h
      exact xiret C rfl dX1_stakesToCut_38
    · refine xaload_n C 0 rfl rfl dX1_stakesToCut_12 ?_
      refine xiload_n C 2 rfl rfl dX1_stakesToCut_13 ?_
      obtain ⟨r14, G14, hc14, h⟩ := bd_some h
      refine xVi C (As := [.int x2]) (rest := []) (kX1_kindOf a0 hc14) a0.1 rfl rfl w_340 mvX1_kindOf mwX1_kindOf rfl ⟨Nat.le_of_ble_eq_true rfl, Nat.le_of_ble_eq_true rfl⟩ ⟨Nat.le_refl _, Nat.le_refl _⟩ (Nat.le_of_ble_eq_true rfl) dX1_stakesToCut_14 ?_
      refine xif_ne C (tgt := 31) h (by decide) dX1_stakesToCut_17 (fun h => ?_) (fun h => ?_)
      · refine xiload_n C 1 rfl rfl dX1_stakesToCut_20 ?_
        refine xaload_n C 0 rfl rfl dX1_stakesToCut_21 ?_
        refine xiload_n C 2 rfl rfl dX1_stakesToCut_22 ?_
        obtain ⟨r23, G23, hc23, h⟩ := bd_some h
        refine xVi C (As := [.int x2]) (rest := [.int x1]) (kX1_thicknessOf a0 hc23) a0.1 rfl rfl w_402 mvX1_thicknessOf mwX1_thicknessOf rfl ⟨Nat.le_of_ble_eq_true rfl, Nat.le_of_ble_eq_true rfl⟩ ⟨Nat.le_refl _, Nat.le_refl _⟩ (Nat.le_of_ble_eq_true rfl) dX1_stakesToCut_23 ?_
        obtain ⟨r26, G26, hc26, h⟩ := bd_some h
        refine xSi C (As := [.int r23]) (rest := [.int x1]) (kX1_stakesOf hc26) w_577 w_578 mwX1_stakesOf rfl ⟨Nat.le_of_ble_eq_true rfl, Nat.le_of_ble_eq_true rfl⟩ ⟨Nat.le_refl _, Nat.le_refl _⟩ (Nat.le_of_ble_eq_true rfl) dX1_stakesToCut_26 ?_
        refine xiadd C dX1_stakesToCut_29 ?_
        refine xistore_n C (lv' := [(1, .int (x1 + r26)), (0, .ref (ad q0)), (2, .int x2)]) rfl (by decide) rfl dX1_stakesToCut_30 ?_
        refine xiinc C (v := (x2 + 1)) (lv' := [(2, .int (x2 + 1)), (1, .int (x1 + r26)), (0, .ref (ad q0))]) 2 rfl rfl (by decide) rfl dX1_stakesToCut_31 ?_
        refine xgoto C (tgt := 4) (by decide) dX1_stakesToCut_34 ?_
        refine xsub C (lv' := [(0, .ref (ad q0)), (1, .int (x1 + r26)), (2, .int (x2 + 1))]) [2, 1, 0] rfl ?_
        exact hrec4 (x1 + r26) (x2 + 1) G26 h
      · refine xiinc C (v := (x2 + 1)) (lv' := [(2, .int (x2 + 1)), (0, .ref (ad q0)), (1, .int x1)]) 2 rfl rfl (by decide) rfl dX1_stakesToCut_31 ?_
        refine xgoto C (tgt := 4) (by decide) dX1_stakesToCut_34 ?_
        refine xsub C (lv' := [(0, .ref (ad q0)), (1, .int x1), (2, .int (x2 + 1))]) [1, 2, 0] rfl ?_
        exact hrec4 x1 (x2 + 1) G14 h
theorem kX1_stakesToCut {r : Int32}  {q0 : Nat} (a0 : A1 kd NP q0) {G : Mem} (h : fX1_stakesToCut q0 G = some (r, G')) : xMi l D cy ad kd NP A yX1_stakesToCut cX1_stakesToCut 3 (some .int) 2 42 [.ref (ad q0)] G r G' := by
  refine xMi_of trivial (by decide +kernel) (Nat.le_of_ble_eq_true rfl) (fun p e s m args below meth c C => ?_)
  have C : xC p s m args meth c cX1_stakesToCut RX1 3 (some .int) D cy := C
  refine xsub C (lv' := [(0, .ref (ad q0))]) [0] rfl ?_
  unfold fX1_stakesToCut at h
  refine xiconst C (v := 0) dX1_stakesToCut_0 (by decide) ?_
  refine xistore_n C (lv' := [(1, .int 0), (0, .ref (ad q0))]) rfl (by decide) rfl dX1_stakesToCut_1 ?_
  refine xiconst C (v := 0) dX1_stakesToCut_2 (by decide) ?_
  refine xistore_n C (lv' := [(2, .int 0), (1, .int 0), (0, .ref (ad q0))]) rfl (by decide) rfl dX1_stakesToCut_3 ?_
  refine xsub C (lv' := [(0, .ref (ad q0)), (1, .int 0), (2, .int 0)]) [2, 1, 0] rfl ?_
  exact wX1_stakesToCut_4 C q0 a0 _ 0 0 G h
end
end
