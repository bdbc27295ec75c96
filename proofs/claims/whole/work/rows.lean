section
-- ===== PART A: goes FIRST, ahead of the names: the tables' words, and 'selects' of the private methods out of them =====
/-- a private method of a class that the tables say can be made, by its rows of tables_1 -/
def lw_okq (q : MethodName × Nat) : Prop := (q.1.cls ≠ "java/lang/invoke/MethodHandle" ∧ q.1.cls ≠ "java/lang/invoke/VarHandle") ∧ Cond.instantiable q.1.cls q.2 ∈ tables_1 ∧ Cond.privateMethod q.1 ∈ tables_1 ∧ Cond.instanceMethod q.1 ∈ tables_1
theorem lw_p0 : lw_okq (⟨"PinDuties", "rowAt", "(I)LPinDuties$Cells;"⟩, 9) := ⟨⟨by decide +kernel, by decide +kernel⟩, List.mem_of_getElem? (i := 11) (by decide +kernel), List.mem_of_getElem? (i := 174) (by decide +kernel), List.mem_of_getElem? (i := 175) (by decide +kernel)⟩
theorem lw_p1 : lw_okq (⟨"PinDuties", "makeCells", "(LPinDuties$Cells;III)I"⟩, 9) := ⟨⟨by decide +kernel, by decide +kernel⟩, List.mem_of_getElem? (i := 11) (by decide +kernel), List.mem_of_getElem? (i := 178) (by decide +kernel), List.mem_of_getElem? (i := 179) (by decide +kernel)⟩
theorem lw_p2 : lw_okq (⟨"PinDuties", "find", "(I)I"⟩, 9) := ⟨⟨by decide +kernel, by decide +kernel⟩, List.mem_of_getElem? (i := 11) (by decide +kernel), List.mem_of_getElem? (i := 182) (by decide +kernel), List.mem_of_getElem? (i := 183) (by decide +kernel)⟩
theorem lw_p3 : lw_okq (⟨"PinDuties", "refusePlace", "(LPinDuties$Cells;I)I"⟩, 9) := ⟨⟨by decide +kernel, by decide +kernel⟩, List.mem_of_getElem? (i := 11) (by decide +kernel), List.mem_of_getElem? (i := 197) (by decide +kernel), List.mem_of_getElem? (i := 198) (by decide +kernel)⟩
theorem lw_p4 : lw_okq (⟨"PinDuties", "refuseMissing", "(LPinDuties$Cells;)I"⟩, 9) := ⟨⟨by decide +kernel, by decide +kernel⟩, List.mem_of_getElem? (i := 11) (by decide +kernel), List.mem_of_getElem? (i := 201) (by decide +kernel), List.mem_of_getElem? (i := 202) (by decide +kernel)⟩
theorem lw_p5 : lw_okq (⟨"PinDuties", "textAt", "(I)LPinDuties$Cells;"⟩, 9) := ⟨⟨by decide +kernel, by decide +kernel⟩, List.mem_of_getElem? (i := 11) (by decide +kernel), List.mem_of_getElem? (i := 248) (by decide +kernel), List.mem_of_getElem? (i := 249) (by decide +kernel)⟩
theorem lw_p6 : lw_okq (⟨"PinDuties$Pins", "takeSign", "(II)V"⟩, 12) := ⟨⟨by decide +kernel, by decide +kernel⟩, List.mem_of_getElem? (i := 29) (by decide +kernel), List.mem_of_getElem? (i := 280) (by decide +kernel), List.mem_of_getElem? (i := 281) (by decide +kernel)⟩
theorem lw_p7 : lw_okq (⟨"PinDuties$Pins", "reckonSetsTo", "(I)V"⟩, 12) := ⟨⟨by decide +kernel, by decide +kernel⟩, List.mem_of_getElem? (i := 29) (by decide +kernel), List.mem_of_getElem? (i := 293) (by decide +kernel), List.mem_of_getElem? (i := 294) (by decide +kernel)⟩
theorem lw_p8 : lw_okq (⟨"PinDuties$Street", "change", "(I)V"⟩, 6) := ⟨⟨by decide +kernel, by decide +kernel⟩, List.mem_of_getElem? (i := 23) (by decide +kernel), List.mem_of_getElem? (i := 308) (by decide +kernel), List.mem_of_getElem? (i := 309) (by decide +kernel)⟩
theorem lw_p9 : lw_okq (⟨"PinDuties", "keptAt", "(I)LPinDuties$Deeds;"⟩, 9) := ⟨⟨by decide +kernel, by decide +kernel⟩, List.mem_of_getElem? (i := 11) (by decide +kernel), List.mem_of_getElem? (i := 388) (by decide +kernel), List.mem_of_getElem? (i := 389) (by decide +kernel)⟩
theorem lw_p10 : lw_okq (⟨"PinDuties", "countWhose", "(II)I"⟩, 9) := ⟨⟨by decide +kernel, by decide +kernel⟩, List.mem_of_getElem? (i := 11) (by decide +kernel), List.mem_of_getElem? (i := 494) (by decide +kernel), List.mem_of_getElem? (i := 495) (by decide +kernel)⟩
theorem lw_p11 : lw_okq (⟨"PinDuties", "refusePairs", "(II)I"⟩, 9) := ⟨⟨by decide +kernel, by decide +kernel⟩, List.mem_of_getElem? (i := 11) (by decide +kernel), List.mem_of_getElem? (i := 502) (by decide +kernel), List.mem_of_getElem? (i := 503) (by decide +kernel)⟩
theorem lw_p12 : lw_okq (⟨"PinDuties", "kindsBy", "(ILPinDuties$Cells;)I"⟩, 9) := ⟨⟨by decide +kernel, by decide +kernel⟩, List.mem_of_getElem? (i := 11) (by decide +kernel), List.mem_of_getElem? (i := 509) (by decide +kernel), List.mem_of_getElem? (i := 510) (by decide +kernel)⟩
theorem lw_p13 : lw_okq (⟨"PinDuties", "tellFraction", "(JJ)V"⟩, 9) := ⟨⟨by decide +kernel, by decide +kernel⟩, List.mem_of_getElem? (i := 11) (by decide +kernel), List.mem_of_getElem? (i := 544) (by decide +kernel), List.mem_of_getElem? (i := 545) (by decide +kernel)⟩
theorem lw_p14 : lw_okq (⟨"PinDuties", "countOf", "(I)I"⟩, 9) := ⟨⟨by decide +kernel, by decide +kernel⟩, List.mem_of_getElem? (i := 11) (by decide +kernel), List.mem_of_getElem? (i := 581) (by decide +kernel), List.mem_of_getElem? (i := 582) (by decide +kernel)⟩
theorem lw_p15 : lw_okq (⟨"PinDuties", "countKept", "()I"⟩, 9) := ⟨⟨by decide +kernel, by decide +kernel⟩, List.mem_of_getElem? (i := 11) (by decide +kernel), List.mem_of_getElem? (i := 588) (by decide +kernel), List.mem_of_getElem? (i := 589) (by decide +kernel)⟩
def lw_privs_1 : List (MethodName × Nat) := [(⟨"PinDuties", "rowAt", "(I)LPinDuties$Cells;"⟩, 9), (⟨"PinDuties", "makeCells", "(LPinDuties$Cells;III)I"⟩, 9), (⟨"PinDuties", "find", "(I)I"⟩, 9), (⟨"PinDuties", "refusePlace", "(LPinDuties$Cells;I)I"⟩, 9), (⟨"PinDuties", "refuseMissing", "(LPinDuties$Cells;)I"⟩, 9), (⟨"PinDuties", "textAt", "(I)LPinDuties$Cells;"⟩, 9), (⟨"PinDuties$Pins", "takeSign", "(II)V"⟩, 12), (⟨"PinDuties$Pins", "reckonSetsTo", "(I)V"⟩, 12), (⟨"PinDuties$Street", "change", "(I)V"⟩, 6), (⟨"PinDuties", "keptAt", "(I)LPinDuties$Deeds;"⟩, 9), (⟨"PinDuties", "countWhose", "(II)I"⟩, 9), (⟨"PinDuties", "refusePairs", "(II)I"⟩, 9), (⟨"PinDuties", "kindsBy", "(ILPinDuties$Cells;)I"⟩, 9), (⟨"PinDuties", "tellFraction", "(JJ)V"⟩, 9), (⟨"PinDuties", "countOf", "(I)I"⟩, 9), (⟨"PinDuties", "countKept", "()I"⟩, 9)]
theorem lw_r1 : ∀ q ∈ lw_privs_1, lw_okq q := List.forall_mem_cons.mpr ⟨lw_p0, List.forall_mem_cons.mpr ⟨lw_p1, List.forall_mem_cons.mpr ⟨lw_p2, List.forall_mem_cons.mpr ⟨lw_p3, List.forall_mem_cons.mpr ⟨lw_p4, List.forall_mem_cons.mpr ⟨lw_p5, List.forall_mem_cons.mpr ⟨lw_p6, List.forall_mem_cons.mpr ⟨lw_p7, List.forall_mem_cons.mpr ⟨lw_p8, List.forall_mem_cons.mpr ⟨lw_p9, List.forall_mem_cons.mpr ⟨lw_p10, List.forall_mem_cons.mpr ⟨lw_p11, List.forall_mem_cons.mpr ⟨lw_p12, List.forall_mem_cons.mpr ⟨lw_p13, List.forall_mem_cons.mpr ⟨lw_p14, List.forall_mem_cons.mpr ⟨lw_p15, fun _ h => absurd h List.not_mem_nil⟩⟩⟩⟩⟩⟩⟩⟩⟩⟩⟩⟩⟩⟩⟩⟩
theorem lw_p16 : lw_okq (⟨"PinDutiesModel", "forgets", "()V"⟩, 27) := ⟨⟨by decide +kernel, by decide +kernel⟩, List.mem_of_getElem? (i := 616) (by decide +kernel), List.mem_of_getElem? (i := 622) (by decide +kernel), List.mem_of_getElem? (i := 623) (by decide +kernel)⟩
theorem lw_p17 : lw_okq (⟨"PinDutiesModel", "found", "(I)I"⟩, 27) := ⟨⟨by decide +kernel, by decide +kernel⟩, List.mem_of_getElem? (i := 616) (by decide +kernel), List.mem_of_getElem? (i := 719) (by decide +kernel), List.mem_of_getElem? (i := 720) (by decide +kernel)⟩
theorem lw_p18 : lw_okq (⟨"PinDutiesModel", "tell", "(I)I"⟩, 27) := ⟨⟨by decide +kernel, by decide +kernel⟩, List.mem_of_getElem? (i := 616) (by decide +kernel), List.mem_of_getElem? (i := 727) (by decide +kernel), List.mem_of_getElem? (i := 728) (by decide +kernel)⟩
theorem lw_p19 : lw_okq (⟨"PinDutiesModel", "reads", "(I)I"⟩, 27) := ⟨⟨by decide +kernel, by decide +kernel⟩, List.mem_of_getElem? (i := 616) (by decide +kernel), List.mem_of_getElem? (i := 763) (by decide +kernel), List.mem_of_getElem? (i := 764) (by decide +kernel)⟩
theorem lw_p20 : lw_okq (⟨"PinDutiesModel", "skips", "()V"⟩, 27) := ⟨⟨by decide +kernel, by decide +kernel⟩, List.mem_of_getElem? (i := 616) (by decide +kernel), List.mem_of_getElem? (i := 767) (by decide +kernel), List.mem_of_getElem? (i := 768) (by decide +kernel)⟩
theorem lw_p21 : lw_okq (⟨"PinDutiesModel", "here", "()I"⟩, 27) := ⟨⟨by decide +kernel, by decide +kernel⟩, List.mem_of_getElem? (i := 616) (by decide +kernel), List.mem_of_getElem? (i := 771) (by decide +kernel), List.mem_of_getElem? (i := 772) (by decide +kernel)⟩
theorem lw_p22 : lw_okq (⟨"PinDutiesModel", "readsPin", "()Z"⟩, 27) := ⟨⟨by decide +kernel, by decide +kernel⟩, List.mem_of_getElem? (i := 616) (by decide +kernel), List.mem_of_getElem? (i := 775) (by decide +kernel), List.mem_of_getElem? (i := 776) (by decide +kernel)⟩
theorem lw_p23 : lw_okq (⟨"PinDutiesModel", "isFigure", "(II)Z"⟩, 27) := ⟨⟨by decide +kernel, by decide +kernel⟩, List.mem_of_getElem? (i := 616) (by decide +kernel), List.mem_of_getElem? (i := 782) (by decide +kernel), List.mem_of_getElem? (i := 783) (by decide +kernel)⟩
theorem lw_p24 : lw_okq (⟨"PinDutiesModel", "isPin", "(I)Z"⟩, 27) := ⟨⟨by decide +kernel, by decide +kernel⟩, List.mem_of_getElem? (i := 616) (by decide +kernel), List.mem_of_getElem? (i := 794) (by decide +kernel), List.mem_of_getElem? (i := 795) (by decide +kernel)⟩
theorem lw_p25 : lw_okq (⟨"PinDutiesModel", "lies", "(I)Z"⟩, 27) := ⟨⟨by decide +kernel, by decide +kernel⟩, List.mem_of_getElem? (i := 616) (by decide +kernel), List.mem_of_getElem? (i := 799) (by decide +kernel), List.mem_of_getElem? (i := 800) (by decide +kernel)⟩
theorem lw_p26 : lw_okq (⟨"PinDutiesModel", "hoursOf", "(I)I"⟩, 27) := ⟨⟨by decide +kernel, by decide +kernel⟩, List.mem_of_getElem? (i := 616) (by decide +kernel), List.mem_of_getElem? (i := 803) (by decide +kernel), List.mem_of_getElem? (i := 804) (by decide +kernel)⟩
theorem lw_p27 : lw_okq (⟨"PinDutiesModel", "worthOf", "(I)I"⟩, 27) := ⟨⟨by decide +kernel, by decide +kernel⟩, List.mem_of_getElem? (i := 616) (by decide +kernel), List.mem_of_getElem? (i := 807) (by decide +kernel), List.mem_of_getElem? (i := 808) (by decide +kernel)⟩
theorem lw_p28 : lw_okq (⟨"PinDutiesModel", "worthBy", "(III)I"⟩, 27) := ⟨⟨by decide +kernel, by decide +kernel⟩, List.mem_of_getElem? (i := 616) (by decide +kernel), List.mem_of_getElem? (i := 811) (by decide +kernel), List.mem_of_getElem? (i := 812) (by decide +kernel)⟩
theorem lw_p29 : lw_okq (⟨"PinDutiesModel", "remember", "()V"⟩, 27) := ⟨⟨by decide +kernel, by decide +kernel⟩, List.mem_of_getElem? (i := 616) (by decide +kernel), List.mem_of_getElem? (i := 834) (by decide +kernel), List.mem_of_getElem? (i := 835) (by decide +kernel)⟩
theorem lw_p30 : lw_okq (⟨"PinDutiesModel", "those", "(I)I"⟩, 27) := ⟨⟨by decide +kernel, by decide +kernel⟩, List.mem_of_getElem? (i := 616) (by decide +kernel), List.mem_of_getElem? (i := 845) (by decide +kernel), List.mem_of_getElem? (i := 846) (by decide +kernel)⟩
theorem lw_p31 : lw_okq (⟨"PinDutiesModel", "refuses", "(I)I"⟩, 27) := ⟨⟨by decide +kernel, by decide +kernel⟩, List.mem_of_getElem? (i := 616) (by decide +kernel), List.mem_of_getElem? (i := 860) (by decide +kernel), List.mem_of_getElem? (i := 861) (by decide +kernel)⟩
def lw_privs_2 : List (MethodName × Nat) := [(⟨"PinDutiesModel", "forgets", "()V"⟩, 27), (⟨"PinDutiesModel", "found", "(I)I"⟩, 27), (⟨"PinDutiesModel", "tell", "(I)I"⟩, 27), (⟨"PinDutiesModel", "reads", "(I)I"⟩, 27), (⟨"PinDutiesModel", "skips", "()V"⟩, 27), (⟨"PinDutiesModel", "here", "()I"⟩, 27), (⟨"PinDutiesModel", "readsPin", "()Z"⟩, 27), (⟨"PinDutiesModel", "isFigure", "(II)Z"⟩, 27), (⟨"PinDutiesModel", "isPin", "(I)Z"⟩, 27), (⟨"PinDutiesModel", "lies", "(I)Z"⟩, 27), (⟨"PinDutiesModel", "hoursOf", "(I)I"⟩, 27), (⟨"PinDutiesModel", "worthOf", "(I)I"⟩, 27), (⟨"PinDutiesModel", "worthBy", "(III)I"⟩, 27), (⟨"PinDutiesModel", "remember", "()V"⟩, 27), (⟨"PinDutiesModel", "those", "(I)I"⟩, 27), (⟨"PinDutiesModel", "refuses", "(I)I"⟩, 27)]
theorem lw_r2 : ∀ q ∈ lw_privs_2, lw_okq q := List.forall_mem_cons.mpr ⟨lw_p16, List.forall_mem_cons.mpr ⟨lw_p17, List.forall_mem_cons.mpr ⟨lw_p18, List.forall_mem_cons.mpr ⟨lw_p19, List.forall_mem_cons.mpr ⟨lw_p20, List.forall_mem_cons.mpr ⟨lw_p21, List.forall_mem_cons.mpr ⟨lw_p22, List.forall_mem_cons.mpr ⟨lw_p23, List.forall_mem_cons.mpr ⟨lw_p24, List.forall_mem_cons.mpr ⟨lw_p25, List.forall_mem_cons.mpr ⟨lw_p26, List.forall_mem_cons.mpr ⟨lw_p27, List.forall_mem_cons.mpr ⟨lw_p28, List.forall_mem_cons.mpr ⟨lw_p29, List.forall_mem_cons.mpr ⟨lw_p30, List.forall_mem_cons.mpr ⟨lw_p31, fun _ h => absurd h List.not_mem_nil⟩⟩⟩⟩⟩⟩⟩⟩⟩⟩⟩⟩⟩⟩⟩⟩
theorem lw_p32 : lw_okq (⟨"PinDutiesModel", "hoursAll", "(IZ)I"⟩, 27) := ⟨⟨by decide +kernel, by decide +kernel⟩, List.mem_of_getElem? (i := 616) (by decide +kernel), List.mem_of_getElem? (i := 881) (by decide +kernel), List.mem_of_getElem? (i := 882) (by decide +kernel)⟩
theorem lw_p33 : lw_okq (⟨"PinDutiesModel", "answer", "(II)I"⟩, 27) := ⟨⟨by decide +kernel, by decide +kernel⟩, List.mem_of_getElem? (i := 616) (by decide +kernel), List.mem_of_getElem? (i := 885) (by decide +kernel), List.mem_of_getElem? (i := 886) (by decide +kernel)⟩
theorem lw_p34 : lw_okq (⟨"PinDutiesModel", "worthAll", "(I)I"⟩, 27) := ⟨⟨by decide +kernel, by decide +kernel⟩, List.mem_of_getElem? (i := 616) (by decide +kernel), List.mem_of_getElem? (i := 893) (by decide +kernel), List.mem_of_getElem? (i := 894) (by decide +kernel)⟩
theorem lw_p35 : lw_okq (⟨"PinDutiesModel", "clash", "(I)Z"⟩, 27) := ⟨⟨by decide +kernel, by decide +kernel⟩, List.mem_of_getElem? (i := 616) (by decide +kernel), List.mem_of_getElem? (i := 901) (by decide +kernel), List.mem_of_getElem? (i := 902) (by decide +kernel)⟩
theorem lw_p36 : lw_okq (⟨"PinDutiesModel", "bestOf", "(I)I"⟩, 27) := ⟨⟨by decide +kernel, by decide +kernel⟩, List.mem_of_getElem? (i := 616) (by decide +kernel), List.mem_of_getElem? (i := 909) (by decide +kernel), List.mem_of_getElem? (i := 910) (by decide +kernel)⟩
theorem lw_p37 : lw_okq (⟨"PinDutiesModel", "steps", "(I)I"⟩, 27) := ⟨⟨by decide +kernel, by decide +kernel⟩, List.mem_of_getElem? (i := 616) (by decide +kernel), List.mem_of_getElem? (i := 918) (by decide +kernel), List.mem_of_getElem? (i := 919) (by decide +kernel)⟩
theorem lw_p38 : lw_okq (⟨"PinDutiesModel", "refusesPairs", "(I)I"⟩, 27) := ⟨⟨by decide +kernel, by decide +kernel⟩, List.mem_of_getElem? (i := 616) (by decide +kernel), List.mem_of_getElem? (i := 938) (by decide +kernel), List.mem_of_getElem? (i := 939) (by decide +kernel)⟩
theorem lw_p39 : lw_okq (⟨"PinDutiesModel", "kindsOf", "(II)I"⟩, 27) := ⟨⟨by decide +kernel, by decide +kernel⟩, List.mem_of_getElem? (i := 616) (by decide +kernel), List.mem_of_getElem? (i := 944) (by decide +kernel), List.mem_of_getElem? (i := 945) (by decide +kernel)⟩
theorem lw_p40 : lw_okq (⟨"PinDutiesModel", "played", "(II)I"⟩, 27) := ⟨⟨by decide +kernel, by decide +kernel⟩, List.mem_of_getElem? (i := 616) (by decide +kernel), List.mem_of_getElem? (i := 961) (by decide +kernel), List.mem_of_getElem? (i := 962) (by decide +kernel)⟩
theorem lw_p41 : lw_okq (⟨"PinDutiesModel", "ways", "(II)J"⟩, 27) := ⟨⟨by decide +kernel, by decide +kernel⟩, List.mem_of_getElem? (i := 616) (by decide +kernel), List.mem_of_getElem? (i := 972) (by decide +kernel), List.mem_of_getElem? (i := 973) (by decide +kernel)⟩
theorem lw_p42 : lw_okq (⟨"PinDutiesModel", "laysBests", "()V"⟩, 27) := ⟨⟨by decide +kernel, by decide +kernel⟩, List.mem_of_getElem? (i := 616) (by decide +kernel), List.mem_of_getElem? (i := 976) (by decide +kernel), List.mem_of_getElem? (i := 977) (by decide +kernel)⟩
theorem lw_p43 : lw_okq (⟨"PinDutiesModel", "allWays", "()J"⟩, 27) := ⟨⟨by decide +kernel, by decide +kernel⟩, List.mem_of_getElem? (i := 616) (by decide +kernel), List.mem_of_getElem? (i := 980) (by decide +kernel), List.mem_of_getElem? (i := 981) (by decide +kernel)⟩
theorem lw_p44 : lw_okq (⟨"PinDutiesModel", "fraction", "(JJ)I"⟩, 27) := ⟨⟨by decide +kernel, by decide +kernel⟩, List.mem_of_getElem? (i := 616) (by decide +kernel), List.mem_of_getElem? (i := 984) (by decide +kernel), List.mem_of_getElem? (i := 985) (by decide +kernel)⟩
theorem lw_p45 : lw_okq (⟨"PinDutiesModel", "lot", "(I)V"⟩, 27) := ⟨⟨by decide +kernel, by decide +kernel⟩, List.mem_of_getElem? (i := 616) (by decide +kernel), List.mem_of_getElem? (i := 999) (by decide +kernel), List.mem_of_getElem? (i := 1000) (by decide +kernel)⟩
theorem lw_p46 : lw_okq (⟨"PinDutiesModel", "ofKind", "(I)I"⟩, 27) := ⟨⟨by decide +kernel, by decide +kernel⟩, List.mem_of_getElem? (i := 616) (by decide +kernel), List.mem_of_getElem? (i := 1022) (by decide +kernel), List.mem_of_getElem? (i := 1023) (by decide +kernel)⟩
def lw_privs_3 : List (MethodName × Nat) := [(⟨"PinDutiesModel", "hoursAll", "(IZ)I"⟩, 27), (⟨"PinDutiesModel", "answer", "(II)I"⟩, 27), (⟨"PinDutiesModel", "worthAll", "(I)I"⟩, 27), (⟨"PinDutiesModel", "clash", "(I)Z"⟩, 27), (⟨"PinDutiesModel", "bestOf", "(I)I"⟩, 27), (⟨"PinDutiesModel", "steps", "(I)I"⟩, 27), (⟨"PinDutiesModel", "refusesPairs", "(I)I"⟩, 27), (⟨"PinDutiesModel", "kindsOf", "(II)I"⟩, 27), (⟨"PinDutiesModel", "played", "(II)I"⟩, 27), (⟨"PinDutiesModel", "ways", "(II)J"⟩, 27), (⟨"PinDutiesModel", "laysBests", "()V"⟩, 27), (⟨"PinDutiesModel", "allWays", "()J"⟩, 27), (⟨"PinDutiesModel", "fraction", "(JJ)I"⟩, 27), (⟨"PinDutiesModel", "lot", "(I)V"⟩, 27), (⟨"PinDutiesModel", "ofKind", "(I)I"⟩, 27)]
theorem lw_r3 : ∀ q ∈ lw_privs_3, lw_okq q := List.forall_mem_cons.mpr ⟨lw_p32, List.forall_mem_cons.mpr ⟨lw_p33, List.forall_mem_cons.mpr ⟨lw_p34, List.forall_mem_cons.mpr ⟨lw_p35, List.forall_mem_cons.mpr ⟨lw_p36, List.forall_mem_cons.mpr ⟨lw_p37, List.forall_mem_cons.mpr ⟨lw_p38, List.forall_mem_cons.mpr ⟨lw_p39, List.forall_mem_cons.mpr ⟨lw_p40, List.forall_mem_cons.mpr ⟨lw_p41, List.forall_mem_cons.mpr ⟨lw_p42, List.forall_mem_cons.mpr ⟨lw_p43, List.forall_mem_cons.mpr ⟨lw_p44, List.forall_mem_cons.mpr ⟨lw_p45, List.forall_mem_cons.mpr ⟨lw_p46, fun _ h => absurd h List.not_mem_nil⟩⟩⟩⟩⟩⟩⟩⟩⟩⟩⟩⟩⟩⟩⟩
def lw_privs : List (MethodName × Nat) := lw_privs_1 ++ (lw_privs_2 ++ (lw_privs_3))
def lw_tbl : List Cond := k2_sels lw_privs ++ tables_1
theorem lw_privs_ok : ∀ q ∈ lw_privs, lw_okq q := by
  show ∀ q ∈ lw_privs_1 ++ (lw_privs_2 ++ (lw_privs_3)), lw_okq q
  exact List.forall_mem_append.mpr ⟨lw_r1, List.forall_mem_append.mpr ⟨lw_r2, lw_r3⟩⟩

def RX0 : String := "PinDuties$Cells"
def TX0 : u_T := fun k => match k with
  | 0 => ("PinDuties$Cells", "size", "I", false)
  | _ => ("PinDuties$Cells", "cells", "[I", true)
def tyX0 : Nat → FieldType := fun k => match k with
  | 0 => .int
  | _ => .array .int
abbrev wsX00 : List Cond := u_ws RX0 TX0 2
theorem nmX0 : ∀ a, a < 2 → ∀ b, b < 2 → a ≠ b → (TX0 a).2.1 ≠ (TX0 b).2.1 := by decide +kernel
theorem tyX0_ok : ∀ k, k < 2 → parseFieldDescriptor (TX0 k).2.2.1 = some (tyX0 k) := by decide +kernel
def RX1 : String := "PinDuties$Deeds"
def TX1 : u_T := fun k => match k with
  | 0 => ("PinDuties$Deeds", "done", "I", false)
  | _ => ("PinDuties$Deeds", "codes", "[I", true)
def tyX1 : Nat → FieldType := fun k => match k with
  | 0 => .int
  | _ => .array .int
abbrev wsX10 : List Cond := u_ws RX1 TX1 2
theorem nmX1 : ∀ a, a < 2 → ∀ b, b < 2 → a ≠ b → (TX1 a).2.1 ≠ (TX1 b).2.1 := by decide +kernel
theorem tyX1_ok : ∀ k, k < 2 → parseFieldDescriptor (TX1 k).2.2.1 = some (tyX1 k) := by decide +kernel
def RX2 : String := "PinDuties$Pins"
def TX2 : u_T := fun k => match k with
  | 0 => ("PinDuties$Pins", "many", "I", false)
  | 1 => ("PinDuties$Pins", "kind", "[I", true)
  | 2 => ("PinDuties$Pins", "place", "[I", true)
  | 3 => ("PinDuties$Pins", "hour", "[I", true)
  | 4 => ("PinDuties$Pins", "length", "[I", true)
  | 5 => ("PinDuties$Pins", "luck", "[I", true)
  | 6 => ("PinDuties$Pins", "hours", "[I", true)
  | 7 => ("PinDuties$Pins", "value", "[I", true)
  | 8 => ("PinDuties$Pins", "unions", "[I", true)
  | 9 => ("PinDuties$Pins", "sums", "[I", true)
  | 10 => ("PinDuties$Pins", "apart", "[Z", true)
  | _ => ("PinDuties$Pins", "most", "[I", true)
def tyX2 : Nat → FieldType := fun k => match k with
  | 0 => .int
  | 1 => .array .int
  | 2 => .array .int
  | 3 => .array .int
  | 4 => .array .int
  | 5 => .array .int
  | 6 => .array .int
  | 7 => .array .int
  | 8 => .array .int
  | 9 => .array .int
  | 10 => .array .boolean
  | _ => .array .int
abbrev wsX20 : List Cond := u_ws RX2 TX2 12
theorem nmX2 : ∀ a, a < 12 → ∀ b, b < 12 → a ≠ b → (TX2 a).2.1 ≠ (TX2 b).2.1 := by decide +kernel
theorem tyX2_ok : ∀ k, k < 12 → parseFieldDescriptor (TX2 k).2.2.1 = some (tyX2 k) := by decide +kernel
def RX3 : String := "PinDuties$Street"
def TX3 : u_T := fun k => match k with
  | 0 => ("PinDuties$Street", "pins", "LPinDuties$Pins;", true)
  | 1 => ("PinDuties$Street", "deeds", "LPinDuties$Deeds;", true)
  | 2 => ("PinDuties$Street", "place", "I", false)
  | 3 => ("PinDuties$Street", "held", "I", false)
  | 4 => ("PinDuties$Street", "swept", "I", false)
  | _ => ("PinDuties$Street", "lies", "[I", true)
def tyX3 : Nat → FieldType := fun k => match k with
  | 0 => .object "PinDuties$Pins"
  | 1 => .object "PinDuties$Deeds"
  | 2 => .int
  | 3 => .int
  | 4 => .int
  | _ => .array .int
abbrev wsX30 : List Cond := u_ws RX3 TX3 6
theorem nmX3 : ∀ a, a < 6 → ∀ b, b < 6 → a ≠ b → (TX3 a).2.1 ≠ (TX3 b).2.1 := by decide +kernel
theorem tyX3_ok : ∀ k, k < 6 → parseFieldDescriptor (TX3 k).2.2.1 = some (tyX3 k) := by decide +kernel
def RX4 : String := "PinDuties"
def TX4 : u_T := fun k => match k with
  | 0 => ("PinDuties", "rows", "[LPinDuties$Cells;", true)
  | 1 => ("PinDuties", "texts", "[LPinDuties$Cells;", true)
  | 2 => ("PinDuties", "kept", "[LPinDuties$Deeds;", true)
  | 3 => ("PinDuties", "street", "LPinDuties$Street;", true)
  | 4 => ("PinDuties", "found", "[I", true)
  | 5 => ("PinDuties", "latest", "I", false)
  | 6 => ("PinDuties", "told", "I", false)
  | 7 => ("PinDuties", "above", "J", false)
  | _ => ("PinDuties", "below", "J", false)
def tyX4 : Nat → FieldType := fun k => match k with
  | 0 => .array (.object "PinDuties$Cells")
  | 1 => .array (.object "PinDuties$Cells")
  | 2 => .array (.object "PinDuties$Deeds")
  | 3 => .object "PinDuties$Street"
  | 4 => .array .int
  | 5 => .int
  | 6 => .int
  | 7 => .long
  | _ => .long
abbrev wsX40 : List Cond := u_ws RX4 TX4 9
theorem nmX4 : ∀ a, a < 9 → ∀ b, b < 9 → a ≠ b → (TX4 a).2.1 ≠ (TX4 b).2.1 := by decide +kernel
theorem tyX4_ok : ∀ k, k < 9 → parseFieldDescriptor (TX4 k).2.2.1 = some (tyX4 k) := by decide +kernel
def RX5 : String := "PinDutiesModel"
def TX5 : u_T := fun k => match k with
  | 0 => ("PinDutiesModel", "rows", "[I", true)
  | 1 => ("PinDutiesModel", "rowSizes", "[I", true)
  | 2 => ("PinDutiesModel", "texts", "[I", true)
  | 3 => ("PinDutiesModel", "textSizes", "[I", true)
  | 4 => ("PinDutiesModel", "asked", "I", false)
  | 5 => ("PinDutiesModel", "upper", "J", false)
  | 6 => ("PinDutiesModel", "lower", "J", false)
  | 7 => ("PinDutiesModel", "finding", "I", false)
  | 8 => ("PinDutiesModel", "findings", "[I", true)
  | 9 => ("PinDutiesModel", "pins", "I", false)
  | 10 => ("PinDutiesModel", "kinds", "[I", true)
  | 11 => ("PinDutiesModel", "hours", "[I", true)
  | 12 => ("PinDutiesModel", "longs", "[I", true)
  | 13 => ("PinDutiesModel", "lucks", "[I", true)
  | 14 => ("PinDutiesModel", "now", "[I", true)
  | 15 => ("PinDutiesModel", "ahead", "[I", true)
  | 16 => ("PinDutiesModel", "deeds", "I", false)
  | 17 => ("PinDutiesModel", "kept", "[I", true)
  | 18 => ("PinDutiesModel", "at", "I", false)
  | 19 => ("PinDutiesModel", "size", "I", false)
  | 20 => ("PinDutiesModel", "which", "I", false)
  | 21 => ("PinDutiesModel", "value", "I", false)
  | 22 => ("PinDutiesModel", "readPins", "I", false)
  | 23 => ("PinDutiesModel", "read", "[I", true)
  | 24 => ("PinDutiesModel", "walkEnd", "I", false)
  | 25 => ("PinDutiesModel", "comes", "[I", true)
  | _ => ("PinDutiesModel", "bests", "[I", true)
def tyX5 : Nat → FieldType := fun k => match k with
  | 0 => .array .int
  | 1 => .array .int
  | 2 => .array .int
  | 3 => .array .int
  | 4 => .int
  | 5 => .long
  | 6 => .long
  | 7 => .int
  | 8 => .array .int
  | 9 => .int
  | 10 => .array .int
  | 11 => .array .int
  | 12 => .array .int
  | 13 => .array .int
  | 14 => .array .int
  | 15 => .array .int
  | 16 => .int
  | 17 => .array .int
  | 18 => .int
  | 19 => .int
  | 20 => .int
  | 21 => .int
  | 22 => .int
  | 23 => .array .int
  | 24 => .int
  | 25 => .array .int
  | _ => .array .int
abbrev wsX50 : List Cond := u_ws RX5 TX5 27
theorem nmX5 : ∀ a, a < 27 → ∀ b, b < 27 → a ≠ b → (TX5 a).2.1 ≠ (TX5 b).2.1 := by decide +kernel
theorem tyX5_ok : ∀ k, k < 27 → parseFieldDescriptor (TX5 k).2.2.1 = some (tyX5 k) := by decide +kernel
def RL : String := "PinDutiesLaw"
abbrev vwCl : List vw_C := [(RX0, TX0, 2), (RX1, TX1, 2), (RX2, TX2, 12), (RX3, TX3, 6), (RX4, TX4, 9), (RX5, TX5, 27)]

def lw_good : List Cond := lw_tbl.filter goodWord
theorem good_sub : ∀ w ∈ lw_good, w ∈ lw_tbl := fun _ h => (List.mem_filter.mp h).1
theorem good_all : ∀ w ∈ lw_good, goodWord w = true := fun _ h => (List.mem_filter.mp h).2
theorem good_at {w : Cond} (i : Nat) (h : lw_tbl[i]? = some w) (hg : goodWord w = true) : w ∈ lw_good := List.mem_filter.mpr ⟨List.mem_of_getElem? h, hg⟩
set_option maxRecDepth 100000 in
theorem inX0 : ∀ w ∈ wsX00, w ∈ lw_good := by
  have h : wsX00 = ([182, 184] : List Nat).filterMap (fun i => lw_tbl[i]?) := by decide +kernel
  intro w hw
  have hg : goodWord w = true := List.all_eq_true.mp (show wsX00.all goodWord = true by decide +kernel) w hw
  rw [h] at hw
  obtain ⟨i, -, hi⟩ := List.mem_filterMap.mp hw
  exact good_at i hi hg
set_option maxRecDepth 100000 in
theorem inX1 : ∀ w ∈ wsX10, w ∈ lw_good := by
  have h : wsX10 = ([143, 145] : List Nat).filterMap (fun i => lw_tbl[i]?) := by decide +kernel
  intro w hw
  have hg : goodWord w = true := List.all_eq_true.mp (show wsX10.all goodWord = true by decide +kernel) w hw
  rw [h] at hw
  obtain ⟨i, -, hi⟩ := List.mem_filterMap.mp hw
  exact good_at i hi hg
set_option maxRecDepth 100000 in
theorem inX2 : ∀ w ∈ wsX20, w ∈ lw_good := by
  have h : wsX20 = ([105, 107, 109, 111, 113, 115, 117, 119, 121, 123, 125, 127] : List Nat).filterMap (fun i => lw_tbl[i]?) := by decide +kernel
  intro w hw
  have hg : goodWord w = true := List.all_eq_true.mp (show wsX20.all goodWord = true by decide +kernel) w hw
  rw [h] at hw
  obtain ⟨i, -, hi⟩ := List.mem_filterMap.mp hw
  exact good_at i hi hg
set_option maxRecDepth 100000 in
theorem inX3 : ∀ w ∈ wsX30, w ∈ lw_good := by
  have h : wsX30 = ([159, 161, 163, 165, 167, 169] : List Nat).filterMap (fun i => lw_tbl[i]?) := by decide +kernel
  intro w hw
  have hg : goodWord w = true := List.all_eq_true.mp (show wsX30.all goodWord = true by decide +kernel) w hw
  rw [h] at hw
  obtain ⟨i, -, hi⟩ := List.mem_filterMap.mp hw
  exact good_at i hi hg
set_option maxRecDepth 100000 in
theorem inX4 : ∀ w ∈ wsX40, w ∈ lw_good := by
  have h : wsX40 = ([197, 199, 201, 203, 205, 207, 209, 211, 213] : List Nat).filterMap (fun i => lw_tbl[i]?) := by decide +kernel
  intro w hw
  have hg : goodWord w = true := List.all_eq_true.mp (show wsX40.all goodWord = true by decide +kernel) w hw
  rw [h] at hw
  obtain ⟨i, -, hi⟩ := List.mem_filterMap.mp hw
  exact good_at i hi hg
set_option maxRecDepth 100000 in
theorem inX5 : ∀ w ∈ wsX50, w ∈ lw_good := by
  have h : wsX50 = ([699, 701, 703, 705, 707, 709, 711, 713, 715, 717, 719, 721, 723, 725, 727, 729, 731, 733, 735, 737, 739, 741, 743, 745, 747, 749, 751] : List Nat).filterMap (fun i => lw_tbl[i]?) := by decide +kernel
  intro w hw
  have hg : goodWord w = true := List.all_eq_true.mp (show wsX50.all goodWord = true by decide +kernel) w hw
  rw [h] at hw
  obtain ⟨i, -, hi⟩ := List.mem_filterMap.mp hw
  exact good_at i hi hg
end
section
/-! 02: the world as a memory over a fixed layout; one rule an instruction -/
abbrev Mem : Type := (Nat → Nat → Int32) × (Nat → Nat → Int64)
abbrev Kd : Type := (Nat × List Nat) ⊕ (Nat × Nat) ⊕ (Nat × List Nat)
def sI (M : Mem) (p i : Nat) (v : Int32) : Mem := (fun q => if q = p then upd (M.1 q) i v else M.1 q, M.2)
def sL (M : Mem) (p i : Nat) (v : Int64) : Mem := (M.1, fun q => if q = p then vp_updL (M.2 q) i v else M.2 q)
def sF (M : Mem) (p : Nat) (f : Nat → Int32) : Mem := (fun q => if q = p then f else M.1 q, M.2)
def fv (ad : Nat → Nat) (M : Mem) (p k : Nat) (c : Nat) : Value := match c with
  | 0 => .int (M.1 p k)
  | 1 => .long (M.2 p k)
  | q + 2 => .ref (ad q)
def cellOf (ad : Nat → Nat) (cA : Nat → ClassId) (M : Mem) (p : Nat) (kd : Kd) : va_E := match kd with
  | .inl (ci, fs) => .inr (ci, fs.mapIdx (fv ad M p))
  | .inr (.inl (t, n)) => .inl (cA t, n, .inl (M.1 p))
  | .inr (.inr (t, qs)) => .inl (cA t, qs.length, .inr (.inr (.inr (.inr (fun i => (qs[i]?).map ad)))))
def wsOf (lay : List Kd) (ad : Nat → Nat) (cA : Nat → ClassId) (M : Mem) : va_W := lay.mapIdx (fun p kd => (ad p, cellOf ad cA M p kd))
theorem wsOf_get {lay : List Kd} {ad : Nat → Nat} {cA : Nat → ClassId} {M : Mem} {p : Nat} {kd : Kd} (h : lay[p]? = some kd) : (wsOf lay ad cA M)[p]? = some (ad p, cellOf ad cA M p kd) := by
  simp [wsOf, List.getElem?_mapIdx, h]
theorem fv_ne {ad : Nat → Nat} {M M' : Mem} {q : Nat} (h1 : M'.1 q = M.1 q) (h2 : M'.2 q = M.2 q) : fv ad M' q = fv ad M q := by
  funext k c
  rcases c with _ | _ | c
  · simp [fv, h1]
  · simp [fv, h2]
  · rfl
theorem cellOf_ne {ad : Nat → Nat} {cA : Nat → ClassId} {M M' : Mem} {q : Nat} (kd : Kd) (h1 : M'.1 q = M.1 q) (h2 : M'.2 q = M.2 q) : cellOf ad cA M' q kd = cellOf ad cA M q kd := by
  rcases kd with ⟨ci, fs⟩ | ⟨t, n⟩ | ⟨t, qs⟩
  · show Sum.inr (ci, fs.mapIdx (fv ad M' q)) = Sum.inr (ci, fs.mapIdx (fv ad M q))
    rw [fv_ne h1 h2]
  · show Sum.inl (cA t, n, Sum.inl (M'.1 q)) = Sum.inl (cA t, n, Sum.inl (M.1 q))
    rw [h1]
  · rfl
theorem wsOf_set {lay : List Kd} {ad : Nat → Nat} {cA : Nat → ClassId} {M M' : Mem} {p : Nat} {kd : Kd} {e : va_E} (h : lay[p]? = some kd) (hne : ∀ q, q ≠ p → M'.1 q = M.1 q ∧ M'.2 q = M.2 q) (he : e = cellOf ad cA M' p kd) : (wsOf lay ad cA M).set p (ad p, e) = wsOf lay ad cA M' := by
  subst he
  apply List.ext_getElem?
  intro k
  rw [List.getElem?_set]
  by_cases hk : p = k
  · subst hk
    have hp : p < (wsOf lay ad cA M).length := by
      have := (List.getElem?_eq_some_iff.mp h).1
      simpa [wsOf] using this
    rw [if_pos rfl, if_pos hp, wsOf_get h]
  · rw [if_neg hk]
    have hkp : k ≠ p := fun e => hk e.symm
    simp only [wsOf, List.getElem?_mapIdx]
    cases hl : lay[k]? with
    | none => rfl
    | some kd' =>
      show some (ad k, cellOf ad cA M k kd') = some (ad k, cellOf ad cA M' k kd')
      rw [cellOf_ne kd' (hne k hkp).1 (hne k hkp).2]
def AA (lay : List Kd) (ad : Nat → Nat) : Nat → Prop := fun q => ∃ p, p < lay.length ∧ q = ad p
def Inj (lay : List Kd) (ad : Nat → Nat) : Prop := ∀ i j, i < lay.length → j < lay.length → ad i = ad j → i = j
theorem wsOf_some {lay : List Kd} {ad : Nat → Nat} {cA : Nat → ClassId} {M : Mem} {k : Nat} {q : Nat × va_E} (h : (wsOf lay ad cA M)[k]? = some q) : k < lay.length ∧ q.1 = ad k := by
  simp only [wsOf, List.getElem?_mapIdx] at h
  cases hl : lay[k]? with
  | none => rw [hl] at h; cases h
  | some kd =>
    rw [hl] at h
    have h' : some (ad k, cellOf ad cA M k kd) = some q := h
    cases h'
    exact ⟨(List.getElem?_eq_some_iff.mp hl).1, rfl⟩
theorem wsOf_D {lay : List Kd} {ad : Nat → Nat} {cA : Nat → ClassId} {M : Mem} (h : Inj lay ad) : va_D (AA lay ad) (wsOf lay ad cA M) :=
  ⟨fun i j p q hi hj e => by
    obtain ⟨a1, a2⟩ := wsOf_some hi
    obtain ⟨b1, b2⟩ := wsOf_some hj
    exact h i j a1 b1 (by rw [← a2, ← b2, e]), fun k q hk => ⟨k, (wsOf_some hk).1, (wsOf_some hk).2⟩⟩
def letF : Nat → Int32 := fun j => match j with
  | 0 => 112
  | 1 => 99
  | 2 => 108
  | 3 => 109
  | 4 => 98
  | _ => 119
def SI (lay : List Kd) (ad : Nat → Nat) (t : Nat) (U : State) (H : Heap) : Prop := va_Z "PinDuties" "LETTERS" "[I" (.ref t) (AA lay ad) U H ∧ va_T .int t 6 (fun j => .int (letF j)) (AA lay ad) U H
theorem SI.moved {lay : List Kd} {ad : Nat → Nat} {t : Nat} {u U : State} {H : Heap} (hvm : u.vm.Alike U.vm) (h : SI lay ad t u H) : SI lay ad t U H := ⟨va_Z.moved hvm h.1, va_T.moved hvm h.2⟩
theorem SI.kept {lay : List Kd} {ad : Nat → Nat} {t : Nat} {U : State} {H H1 : Heap} (h : SI lay ad t U H) (hq : ∀ a : Nat, a < H.size → ¬ AA lay ad a → H1[a]? = H[a]?) : SI lay ad t U H1 := ⟨va_Z.kept h.1 hq, va_T.kept h.2 hq⟩
def tysOf (cA : Nat → ClassId) : List (ClassId × FieldType) := [(cA 0, .int), (cA 1, .boolean), (cA 2, .object RX0), (cA 3, .object RX1)]
def rmL (n : Nat) : Room := { frames := n, cells := 0, slots := 0, locals := 50 * n }
def wsC (y : MethodName) (cc : ByteArray) (nL : Nat) (ret : Option FieldType) : List Cond := .code y cc nL ret :: lw_good
abbrev ZZ : Type := Launch × va_G × (Nat → ClassId) × Nat
def PP (lay : List Kd) (ad : Nat → Nat) (z : ZZ) (M : Mem) (av : List Value) : Array Value → State → Prop := fun v U => v = av.toArray ∧ va_P z.2.1 vwCl (wsOf lay ad z.2.2.1 M) U.heap ∧ va_K z.2.1 vwCl (tysOf z.2.2.1) U ∧ Inj lay ad ∧ SI lay ad z.2.2.2 U U.heap
def QQ (lay : List Kd) (ad : Nat → Nat) (z : ZZ) (M' : Mem) (v' : Option Value) : Array Value → State → Outcome → State → Prop := fun _ st o t => o = .returned v' ∧ va_P z.2.1 vwCl (wsOf lay ad z.2.2.1 M') t.heap ∧ va_F (AA lay ad) st t
/-- a method's contract: from the memory M with the arguments av it comes to M' and answers v' -/
def Con (lay : List Kd) (ad : Nat → Nat) (z : ZZ) (y : MethodName) (cc : ByteArray) (nL : Nat) (ret : Option FieldType) (lev : Nat) (M : Mem) (av : List Value) (M' : Mem) (v' : Option Value) : Prop :=
  Met z.1 y (wsC y cc nL ret) (rmL lev) (PP lay ad z M av) (QQ lay ad z M' v') 0 0 (AA lay ad)
theorem PP_blind {lay : List Kd} {ad : Nat → Nat} {z : ZZ} {M : Mem} {av : List Value} : FrameBlind (PP lay ad z M av) := by
  intro a U g mk h
  obtain ⟨h1, h2, h3, h4, h5⟩ := h
  exact ⟨h1, h2, va_K.moved (u := U) (U := U.calling g mk a) (Vm.Alike.refl U.vm) h3, h4, SI.moved (u := U) (U := U.calling g mk a) (Vm.Alike.refl U.vm) h5⟩
abbrev XX : Type := ZZ × Program × Env × State × MethodId × Array Value × List Frame × Method × Code × Nat × Nat × Mem × Option Value
def Cx (lay : List Kd) (ad : Nat → Nat) (X : XX) (cc : ByteArray) (own : String) (nL lev : Nat) (ret : Option FieldType) (M' : Mem) (v' : Option Value) : Prop := match X with
  | (z, p, _, s, m, args, _, meth, c, nL', lev', Mf, vf) => p.tables.exec = Jvm.exec ∧ c.code = cc ∧ meth.sig.returnType = ret ∧ c.maxLocals = nL ∧ s.vm.findClass own = some m.cls ∧ (∀ w ∈ lw_good, w.before args s = true) ∧ meth.locks = false ∧ va_K z.2.1 vwCl (tysOf z.2.2.1) s ∧ Inj lay ad ∧ SI lay ad z.2.2.2 s s.heap ∧ nL' = nL ∧ lev' = lev ∧ Mf = M' ∧ vf = v'
def Wp (lay : List Kd) (ad : Nat → Nat) (X : XX) (M : Mem) (pc : Nat) (lv : List (Nat × Value)) (st : List Value) : Prop := match X with
  | (z, p, e, s, m, args, below, meth, c, nL, lev, Mf, vf) => ∀ (H : Heap) (locs : List Loc) (ls : Array Slot), va_P z.2.1 vwCl (wsOf lay ad z.2.2.1 M) H → va_S (AA lay ad) s.heap H locs → lv_has ls nL lv → W p z.1 e (rmL lev) s m args below meth c H locs 0 0 (MQ below (QQ lay ad z Mf vf) args s 0 0 (AA lay ad)) (F0 m pc ls st)
set_option maxHeartbeats 1000000 in
theorem con_of {lay : List Kd} {ad : Nat → Nat} {z : ZZ} {y : MethodName} {cc : ByteArray} {nL : Nat} {ret : Option FieldType} {lev : Nat} {M : Mem} {av : List Value} {M' : Mem} {v' : Option Value} {own : String} {lv : List (Nat × Value)} (hy : plainName y.cls = true) (hown : y.cls = own) (hn : (lg_sl av).length ≤ nL) (hlv : lv_args 0 av = lv)
    (body : ∀ X : XX, X.1 = z → Cx lay ad X cc own nL lev ret M' v' → Wp lay ad X M 0 lv []) : Con lay ad z y cc nL ret lev M av M' v' := by
  obtain ⟨l, D, cA, t⟩ := z
  refine Met.ofW (cc := cc) (maxL := nL) (ret := ret) hy rfl ?_
  intro p e s m args below meth c s₁ B hml hv
  obtain ⟨rfl, hP, hK, hI, hZ⟩ := hv
  have hts := atoms_spec (ws := wsC y cc nL ret) B.pre
  have hown2 : s.vm.findClass own = some m.cls := by rw [← hown]; exact findClass_of_methodNamed B.named
  have hl := lv_entry av hn
  rw [lg_entry_eq]
  have hl2 : lv_has ((lg_sl av ++ List.replicate (nL - (lg_sl av).length) Slot.unset).toArray) nL lv := by rw [← hlv]; exact hl
  exact body ((l, D, cA, t), p, e, s, m, av.toArray, below, meth, c, nL, lev, M', v') rfl ⟨B.exec, B.bytes, B.returns, hml, hown2, fun w hw => hts w (List.mem_cons_of_mem _ hw), B.notSynchronized, hK, hI, hZ, rfl, rfl, rfl, rfl⟩ s.heap [] _ hP va_S.rf hl2
/-- a value gets a name -/
def nm {α β : Type} (e : α) (k : α → β) : β := k e
theorem nm_e2 {α β : Type} {e : α} {k : α → β} {r : β} (h : nm e k = r) : ∃ x, x = e ∧ k x = r := ⟨e, rfl, h⟩
theorem bd {α β : Type} {o : Option α} {k : α → Option β} {r : β} (h : o.bind k = some r) : ∃ v, o = some v ∧ k v = some r := by
  cases o with
  | none => cases h
  | some v => exact ⟨v, rfl, h⟩
def rd (M : Mem) (p n : Nat) (i : Int32) : Option Int32 := if i < 0 ∨ n ≤ i.toNatClampNeg then none else some (M.1 p i.toNatClampNeg)
def wr (M : Mem) (p n : Nat) (i v : Int32) : Option Mem := if i < 0 ∨ n ≤ i.toNatClampNeg then none else some (sI M p i.toNatClampNeg v)
def rdR (qs : List Nat) (i : Int32) : Option Nat := if i < 0 ∨ qs.length ≤ i.toNatClampNeg then none else qs[i.toNatClampNeg]?
def rdT (i : Int32) : Option Int32 := if i < 0 ∨ 6 ≤ i.toNatClampNeg then none else some (letF i.toNatClampNeg)
def dvI (x y : Int32) : Option Int32 := if y = 0 then none else some (x / y)
def rmI (x y : Int32) : Option Int32 := if y = 0 then none else some (x - x / y * y)
def dvL (x y : Int64) : Option Int64 := if y = 0 then none else some (x / y)
def rmLo (x y : Int64) : Option Int64 := if y = 0 then none else some (x - x / y * y)
def zr (v : Int32) : Option Int32 := if v = 0 ∨ v = 1 then some v else none
def zb (v : Int32) : Int32 := v &&& 1
def gd (b : Bool) : Option Unit := if b = true then some () else none
def cpy (M : Mem) (p0 n0 : Nat) (sp : Int32) (p1 n1 : Nat) (dp n : Int32) : Option Mem :=
  if sp < 0 ∨ dp < 0 ∨ n < 0 ∨ n0 < sp.toNatClampNeg + n.toNatClampNeg ∨ n1 < dp.toNatClampNeg + n.toNatClampNeg then none
  else some (sF M p1 (va_cpy (M.1 p0) (M.1 p1) sp.toNatClampNeg dp.toNatClampNeg n.toNatClampNeg))
theorem rd_s {M : Mem} {p n : Nat} {i v : Int32} (h : rd M p n i = some v) : vp_in i n ∧ v = M.1 p i.toNatClampNeg := by
  unfold rd at h
  by_cases c : i < 0 ∨ n ≤ i.toNatClampNeg
  · rw [if_pos c] at h; cases h
  · rw [if_neg c] at h; cases h; exact ⟨c, rfl⟩
theorem wr_s {M M1 : Mem} {p n : Nat} {i v : Int32} (h : wr M p n i v = some M1) : vp_in i n ∧ M1 = sI M p i.toNatClampNeg v := by
  unfold wr at h
  by_cases c : i < 0 ∨ n ≤ i.toNatClampNeg
  · rw [if_pos c] at h; cases h
  · rw [if_neg c] at h; cases h; exact ⟨c, rfl⟩
theorem rdR_s {qs : List Nat} {q : Nat} {i : Int32} (h : rdR qs i = some q) : vp_in i qs.length ∧ qs[i.toNatClampNeg]? = some q := by
  unfold rdR at h
  by_cases c : i < 0 ∨ qs.length ≤ i.toNatClampNeg
  · rw [if_pos c] at h; cases h
  · rw [if_neg c] at h; exact ⟨c, h⟩
theorem sI_ne {M : Mem} {p i : Nat} {v : Int32} (q : Nat) (h : q ≠ p) : (sI M p i v).1 q = M.1 q ∧ (sI M p i v).2 q = M.2 q := ⟨by simp [sI, h], rfl⟩
theorem sL_ne {M : Mem} {p i : Nat} {v : Int64} (q : Nat) (h : q ≠ p) : (sL M p i v).1 q = M.1 q ∧ (sL M p i v).2 q = M.2 q := ⟨rfl, by simp [sL, h]⟩
theorem sF_ne {M : Mem} {p : Nat} {f : Nat → Int32} (q : Nat) (h : q ≠ p) : (sF M p f).1 q = M.1 q ∧ (sF M p f).2 q = M.2 q := ⟨by simp [sF, h], rfl⟩
/-- the field that an entry of a class's pool links -/
def FL (own : String) (idx ci k : Nat) : Prop := ∃ (C : String) (T : u_T) (N : Nat), vwCl[ci]? = some (C, T, N) ∧ k < N ∧ (∀ w ∈ u_ws C T N, w ∈ lw_good) ∧ Cond.fieldLink own idx (T k).1 (T k).2.1 (T k).2.2.1 ∈ lw_good
/-- the same, of one that may be written -/
def FP (own : String) (idx ci k : Nat) (ty : FieldType) : Prop := ∃ (C : String) (T : u_T) (N : Nat) (ty0 : Nat → FieldType), vwCl[ci]? = some (C, T, N) ∧ k < N ∧ (∀ w ∈ u_ws C T N, w ∈ lw_good) ∧ Cond.fieldLink own idx (T k).1 (T k).2.1 (T k).2.2.1 ∈ lw_good ∧ (∀ k, k < N → parseFieldDescriptor (T k).2.2.1 = some (ty0 k)) ∧ (∀ a, a < N → ∀ b, b < N → a ≠ b → (T a).2.1 ≠ (T b).2.1) ∧ (T k).2.2.2 = false ∧ parseFieldDescriptor (T k).2.2.1 = some ty
/-- a call's words: an instance method, a static one, a static one of a nest mate -/
def CV (own : String) (idx : Nat) (y : MethodName) (cc : ByteArray) (nL : Nat) (ret : Option FieldType) (n ci : Nat) : Prop := Cond.methodLink own idx y ∈ lw_good ∧ Cond.instanceMethod y ∈ lw_good ∧ Cond.selects y.cls y y ∈ lw_good ∧ Cond.initialized y.cls ∈ lw_good ∧ Cond.code y cc nL ret ∈ lw_good ∧ (y.cls ≠ "java/lang/invoke/MethodHandle" ∧ y.cls ≠ "java/lang/invoke/VarHandle" ∧ (parseMethodDescriptor y.desc).map (fun d => d.parameters.length) = some n) ∧ ∃ T N, vwCl[ci]? = some (y.cls, T, N)
def CS (own : String) (idx : Nat) (y : MethodName) (cc : ByteArray) (nL : Nat) (ret : Option FieldType) (n : Nat) : Prop := Cond.methodLink own idx y ∈ lw_good ∧ Cond.static y ∈ lw_good ∧ Cond.initialized y.cls ∈ lw_good ∧ Cond.code y cc nL ret ∈ lw_good ∧ (y.cls ≠ "java/lang/invoke/MethodHandle" ∧ y.cls ≠ "java/lang/invoke/VarHandle" ∧ (parseMethodDescriptor y.desc).map (fun d => d.parameters.length) = some n)
def CN (own : String) (idx : Nat) (y : MethodName) (host : String) (cc : ByteArray) (nL : Nat) (ret : Option FieldType) (n : Nat) : Prop := Cond.methodLinkNest own idx y host ∈ lw_good ∧ Cond.static y ∈ lw_good ∧ Cond.initialized y.cls ∈ lw_good ∧ Cond.code y cc nL ret ∈ lw_good ∧ (y.cls ≠ "java/lang/invoke/MethodHandle" ∧ y.cls ≠ "java/lang/invoke/VarHandle" ∧ (parseMethodDescriptor y.desc).map (fun d => d.parameters.length) = some n)
theorem good_wsC {y : MethodName} {cc : ByteArray} {nL : Nat} {ret : Option FieldType} (h : Cond.code y cc nL ret ∈ lw_good) : GoodIn lw_good (wsC y cc nL ret) := by
  have hg : ∀ w ∈ lw_good, w ∈ lw_good ∧ ((w.onTables && w.keeps) = true ∨ ∃ ty, w = .arrayClass ty) := fun w hw => ⟨hw, good_of_word (good_all w hw)⟩
  intro w hw
  rcases List.mem_cons.mp hw with e | hw
  · rw [e]; exact hg _ h
  · exact hg w hw
theorem put_I {ad : Nat → Nat} {M : Mem} {q0 k0 : Nat} {fs : List Nat} {x : Int32} (hk : fs[k0]? = some 0) : (fs.mapIdx (fv ad M q0)).set k0 (.int x) = fs.mapIdx (fv ad (sI M q0 k0 x) q0) := by
  have hlen : k0 < fs.length := (List.getElem?_eq_some_iff.mp hk).1
  apply List.ext_getElem?
  intro j
  rw [List.getElem?_set]
  by_cases hj : k0 = j
  · subst hj
    rw [if_pos rfl, if_pos (by simpa using hlen), List.getElem?_mapIdx, hk]
    simp [fv, sI, upd]
  · rw [if_neg hj]
    simp only [List.getElem?_mapIdx]
    cases hc : fs[j]? with
    | none => rfl
    | some c =>
      have hj2 : j ≠ k0 := fun e => hj e.symm
      rcases c with _ | _ | c <;> simp [fv, sI, upd, hj2]
theorem put_L {ad : Nat → Nat} {M : Mem} {q0 k0 : Nat} {fs : List Nat} {x : Int64} (hk : fs[k0]? = some 1) : (fs.mapIdx (fv ad M q0)).set k0 (.long x) = fs.mapIdx (fv ad (sL M q0 k0 x) q0) := by
  have hlen : k0 < fs.length := (List.getElem?_eq_some_iff.mp hk).1
  apply List.ext_getElem?
  intro j
  rw [List.getElem?_set]
  by_cases hj : k0 = j
  · subst hj
    rw [if_pos rfl, if_pos (by simpa using hlen), List.getElem?_mapIdx, hk]
    simp [fv, sL, vp_updL]
  · rw [if_neg hj]
    simp only [List.getElem?_mapIdx]
    cases hc : fs[j]? with
    | none => rfl
    | some c =>
      have hj2 : j ≠ k0 := fun e => hj e.symm
      rcases c with _ | _ | c <;> simp [fv, sL, vp_updL, hj2]
theorem copy_room {n : Nat} (h : 2 ≤ n) : (([] : List Value).map fun v => v.category).sum + (nativeFrameWords "java/lang/System" "arraycopy" 5 + 11) ≤ (rmL n).locals := by
  have h1 : nativeFrameWords "java/lang/System" "arraycopy" 5 + 11 ≤ 100 := by decide +kernel
  show 0 + (nativeFrameWords "java/lang/System" "arraycopy" 5 + 11) ≤ 50 * n
  omega
section RULES
variable {lay : List Kd} {ad : Nat → Nat} {X : XX} {cc : ByteArray} {own : String} {nL lev : Nat} {ret : Option FieldType} {M' : Mem} {v' : Option Value} {M : Mem} {pc : Nat} {lv lv' : List (Nat × Value)} {st : List Value}
theorem Wp_sub {nX : Nat} (ks : List Nat) (hl : lv_pick lv ks = lv') (k : Wp lay ad X M pc lv' st) : Wp lay ad X M pc lv st := by
  obtain ⟨z, p, e, s, m, args, below, meth, c, nL', lev', Mf, vf⟩ := X
  intro H locs ls hP hS hh
  exact k H locs ls hP hS (lv_sub hh ks hl)

theorem R_iconst (h : Cx lay ad X cc own nL lev ret M' v') {n : Int} {v : Int32} (hv : Int32.ofInt n = v) (hd : decode cc pc = .ok (.iconst n, 1)) (k : Wp lay ad X M (pc + 1) lv (.int v :: st)) : Wp lay ad X M pc lv (st) := by
  obtain ⟨⟨l, D, cA, t⟩, p, e, s, m, args, below, meth, c, nL', lev', Mf, vf⟩ := X
  obtain ⟨hx, hb, hr, hml, hown, hts, hlk, hK, hI, hZ, rfl, rfl, rfl, rfl⟩ := h
  intro H locs ls hP hS hl
  exact lv_iconst hx hb hd hv (k H locs ls hP hS hl)
theorem R_bipush (h : Cx lay ad X cc own nL lev ret M' v') {n : Int} {v : Int32} (hv : (Int8.ofInt n).toInt32 = v) (hd : decode cc pc = .ok (.bipush n, 2)) (k : Wp lay ad X M (pc + 2) lv (.int v :: st)) : Wp lay ad X M pc lv (st) := by
  obtain ⟨⟨l, D, cA, t⟩, p, e, s, m, args, below, meth, c, nL', lev', Mf, vf⟩ := X
  obtain ⟨hx, hb, hr, hml, hown, hts, hlk, hK, hI, hZ, rfl, rfl, rfl, rfl⟩ := h
  intro H locs ls hP hS hl
  exact lv_bipush hx hb hd hv (k H locs ls hP hS hl)
theorem R_sipush (h : Cx lay ad X cc own nL lev ret M' v') {n : Int} {v : Int32} (hv : (Int16.ofInt n).toInt32 = v) (hd : decode cc pc = .ok (.sipush n, 3)) (k : Wp lay ad X M (pc + 3) lv (.int v :: st)) : Wp lay ad X M pc lv (st) := by
  obtain ⟨⟨l, D, cA, t⟩, p, e, s, m, args, below, meth, c, nL', lev', Mf, vf⟩ := X
  obtain ⟨hx, hb, hr, hml, hown, hts, hlk, hK, hI, hZ, rfl, rfl, rfl, rfl⟩ := h
  intro H locs ls hP hS hl
  exact lv_sipush hx hb hd hv (k H locs ls hP hS hl)
theorem R_lconst (h : Cx lay ad X cc own nL lev ret M' v') {n : Fin 2} {v : Int64} (hv : Int64.ofNat (n : Nat) = v) (hd : decode cc pc = .ok (.lconst n, 1)) (k : Wp lay ad X M (pc + 1) lv (.long v :: st)) : Wp lay ad X M pc lv (st) := by
  obtain ⟨⟨l, D, cA, t⟩, p, e, s, m, args, below, meth, c, nL', lev', Mf, vf⟩ := X
  obtain ⟨hx, hb, hr, hml, hown, hts, hlk, hK, hI, hZ, rfl, rfl, rfl, rfl⟩ := h
  intro H locs ls hP hS hl
  exact lv_lconst hx hb hd hv (k H locs ls hP hS hl)
theorem R_iadd (h : Cx lay ad X cc own nL lev ret M' v') {x y : Int32} (hd : decode cc pc = .ok (.iadd, 1)) (k : Wp lay ad X M (pc + 1) lv (.int (x + y) :: st)) : Wp lay ad X M pc lv (.int y :: .int x :: st) := by
  obtain ⟨⟨l, D, cA, t⟩, p, e, s, m, args, below, meth, c, nL', lev', Mf, vf⟩ := X
  obtain ⟨hx, hb, hr, hml, hown, hts, hlk, hK, hI, hZ, rfl, rfl, rfl, rfl⟩ := h
  intro H locs ls hP hS hl
  exact lv_iadd hx hb hd (k H locs ls hP hS hl)
theorem R_isub (h : Cx lay ad X cc own nL lev ret M' v') {x y : Int32} (hd : decode cc pc = .ok (.isub, 1)) (k : Wp lay ad X M (pc + 1) lv (.int (x - y) :: st)) : Wp lay ad X M pc lv (.int y :: .int x :: st) := by
  obtain ⟨⟨l, D, cA, t⟩, p, e, s, m, args, below, meth, c, nL', lev', Mf, vf⟩ := X
  obtain ⟨hx, hb, hr, hml, hown, hts, hlk, hK, hI, hZ, rfl, rfl, rfl, rfl⟩ := h
  intro H locs ls hP hS hl
  exact lv_isub hx hb hd (k H locs ls hP hS hl)
theorem R_imul (h : Cx lay ad X cc own nL lev ret M' v') {x y : Int32} (hd : decode cc pc = .ok (.imul, 1)) (k : Wp lay ad X M (pc + 1) lv (.int (x * y) :: st)) : Wp lay ad X M pc lv (.int y :: .int x :: st) := by
  obtain ⟨⟨l, D, cA, t⟩, p, e, s, m, args, below, meth, c, nL', lev', Mf, vf⟩ := X
  obtain ⟨hx, hb, hr, hml, hown, hts, hlk, hK, hI, hZ, rfl, rfl, rfl, rfl⟩ := h
  intro H locs ls hP hS hl
  exact lv_imul hx hb hd (k H locs ls hP hS hl)
theorem R_iand (h : Cx lay ad X cc own nL lev ret M' v') {x y : Int32} (hd : decode cc pc = .ok (.iand, 1)) (k : Wp lay ad X M (pc + 1) lv (.int (x &&& y) :: st)) : Wp lay ad X M pc lv (.int y :: .int x :: st) := by
  obtain ⟨⟨l, D, cA, t⟩, p, e, s, m, args, below, meth, c, nL', lev', Mf, vf⟩ := X
  obtain ⟨hx, hb, hr, hml, hown, hts, hlk, hK, hI, hZ, rfl, rfl, rfl, rfl⟩ := h
  intro H locs ls hP hS hl
  exact lv_iand hx hb hd (k H locs ls hP hS hl)
theorem R_ior (h : Cx lay ad X cc own nL lev ret M' v') {x y : Int32} (hd : decode cc pc = .ok (.ior, 1)) (k : Wp lay ad X M (pc + 1) lv (.int (x ||| y) :: st)) : Wp lay ad X M pc lv (.int y :: .int x :: st) := by
  obtain ⟨⟨l, D, cA, t⟩, p, e, s, m, args, below, meth, c, nL', lev', Mf, vf⟩ := X
  obtain ⟨hx, hb, hr, hml, hown, hts, hlk, hK, hI, hZ, rfl, rfl, rfl, rfl⟩ := h
  intro H locs ls hP hS hl
  exact lv_ior hx hb hd (k H locs ls hP hS hl)
theorem R_ixor (h : Cx lay ad X cc own nL lev ret M' v') {x y : Int32} (hd : decode cc pc = .ok (.ixor, 1)) (k : Wp lay ad X M (pc + 1) lv (.int (x ^^^ y) :: st)) : Wp lay ad X M pc lv (.int y :: .int x :: st) := by
  obtain ⟨⟨l, D, cA, t⟩, p, e, s, m, args, below, meth, c, nL', lev', Mf, vf⟩ := X
  obtain ⟨hx, hb, hr, hml, hown, hts, hlk, hK, hI, hZ, rfl, rfl, rfl, rfl⟩ := h
  intro H locs ls hP hS hl
  exact lv_ixor hx hb hd (k H locs ls hP hS hl)
theorem R_ishl (h : Cx lay ad X cc own nL lev ret M' v') {x y : Int32} (hd : decode cc pc = .ok (.ishl, 1)) (k : Wp lay ad X M (pc + 1) lv (.int (x <<< (y &&& 31)) :: st)) : Wp lay ad X M pc lv (.int y :: .int x :: st) := by
  obtain ⟨⟨l, D, cA, t⟩, p, e, s, m, args, below, meth, c, nL', lev', Mf, vf⟩ := X
  obtain ⟨hx, hb, hr, hml, hown, hts, hlk, hK, hI, hZ, rfl, rfl, rfl, rfl⟩ := h
  intro H locs ls hP hS hl
  exact lv_ishl hx hb hd (k H locs ls hP hS hl)
theorem R_ishr (h : Cx lay ad X cc own nL lev ret M' v') {x y : Int32} (hd : decode cc pc = .ok (.ishr, 1)) (k : Wp lay ad X M (pc + 1) lv (.int (x >>> (y &&& 31)) :: st)) : Wp lay ad X M pc lv (.int y :: .int x :: st) := by
  obtain ⟨⟨l, D, cA, t⟩, p, e, s, m, args, below, meth, c, nL', lev', Mf, vf⟩ := X
  obtain ⟨hx, hb, hr, hml, hown, hts, hlk, hK, hI, hZ, rfl, rfl, rfl, rfl⟩ := h
  intro H locs ls hP hS hl
  exact lv_ishr hx hb hd (k H locs ls hP hS hl)
theorem R_ineg (h : Cx lay ad X cc own nL lev ret M' v') {x : Int32} (hd : decode cc pc = .ok (.ineg, 1)) (k : Wp lay ad X M (pc + 1) lv (.int (-x) :: st)) : Wp lay ad X M pc lv (.int x :: st) := by
  obtain ⟨⟨l, D, cA, t⟩, p, e, s, m, args, below, meth, c, nL', lev', Mf, vf⟩ := X
  obtain ⟨hx, hb, hr, hml, hown, hts, hlk, hK, hI, hZ, rfl, rfl, rfl, rfl⟩ := h
  intro H locs ls hP hS hl
  exact lv_ineg hx hb hd (k H locs ls hP hS hl)
theorem R_ladd (h : Cx lay ad X cc own nL lev ret M' v') {x y : Int64} (hd : decode cc pc = .ok (.ladd, 1)) (k : Wp lay ad X M (pc + 1) lv (.long (x + y) :: st)) : Wp lay ad X M pc lv (.long y :: .long x :: st) := by
  obtain ⟨⟨l, D, cA, t⟩, p, e, s, m, args, below, meth, c, nL', lev', Mf, vf⟩ := X
  obtain ⟨hx, hb, hr, hml, hown, hts, hlk, hK, hI, hZ, rfl, rfl, rfl, rfl⟩ := h
  intro H locs ls hP hS hl
  exact lv_ladd hx hb hd (k H locs ls hP hS hl)
theorem R_lsub (h : Cx lay ad X cc own nL lev ret M' v') {x y : Int64} (hd : decode cc pc = .ok (.lsub, 1)) (k : Wp lay ad X M (pc + 1) lv (.long (x - y) :: st)) : Wp lay ad X M pc lv (.long y :: .long x :: st) := by
  obtain ⟨⟨l, D, cA, t⟩, p, e, s, m, args, below, meth, c, nL', lev', Mf, vf⟩ := X
  obtain ⟨hx, hb, hr, hml, hown, hts, hlk, hK, hI, hZ, rfl, rfl, rfl, rfl⟩ := h
  intro H locs ls hP hS hl
  exact lv_lsub hx hb hd (k H locs ls hP hS hl)
theorem R_lmul (h : Cx lay ad X cc own nL lev ret M' v') {x y : Int64} (hd : decode cc pc = .ok (.lmul, 1)) (k : Wp lay ad X M (pc + 1) lv (.long (x * y) :: st)) : Wp lay ad X M pc lv (.long y :: .long x :: st) := by
  obtain ⟨⟨l, D, cA, t⟩, p, e, s, m, args, below, meth, c, nL', lev', Mf, vf⟩ := X
  obtain ⟨hx, hb, hr, hml, hown, hts, hlk, hK, hI, hZ, rfl, rfl, rfl, rfl⟩ := h
  intro H locs ls hP hS hl
  exact lv_lmul hx hb hd (k H locs ls hP hS hl)
theorem R_i2l (h : Cx lay ad X cc own nL lev ret M' v') {x : Int32} (hd : decode cc pc = .ok (.i2l, 1)) (k : Wp lay ad X M (pc + 1) lv (.long x.toInt64 :: st)) : Wp lay ad X M pc lv (.int x :: st) := by
  obtain ⟨⟨l, D, cA, t⟩, p, e, s, m, args, below, meth, c, nL', lev', Mf, vf⟩ := X
  obtain ⟨hx, hb, hr, hml, hown, hts, hlk, hK, hI, hZ, rfl, rfl, rfl, rfl⟩ := h
  intro H locs ls hP hS hl
  exact lv_i2l hx hb hd rfl (k H locs ls hP hS hl)
theorem R_l2i (h : Cx lay ad X cc own nL lev ret M' v') {x : Int64} (hd : decode cc pc = .ok (.l2i, 1)) (k : Wp lay ad X M (pc + 1) lv (.int x.toInt32 :: st)) : Wp lay ad X M pc lv (.long x :: st) := by
  obtain ⟨⟨l, D, cA, t⟩, p, e, s, m, args, below, meth, c, nL', lev', Mf, vf⟩ := X
  obtain ⟨hx, hb, hr, hml, hown, hts, hlk, hK, hI, hZ, rfl, rfl, rfl, rfl⟩ := h
  intro H locs ls hP hS hl
  exact lv_l2i hx hb hd rfl (k H locs ls hP hS hl)
theorem R_i2b (h : Cx lay ad X cc own nL lev ret M' v') {x : Int32} (hd : decode cc pc = .ok (.i2b, 1)) (k : Wp lay ad X M (pc + 1) lv (.int x.toInt8.toInt32 :: st)) : Wp lay ad X M pc lv (.int x :: st) := by
  obtain ⟨⟨l, D, cA, t⟩, p, e, s, m, args, below, meth, c, nL', lev', Mf, vf⟩ := X
  obtain ⟨hx, hb, hr, hml, hown, hts, hlk, hK, hI, hZ, rfl, rfl, rfl, rfl⟩ := h
  intro H locs ls hP hS hl
  exact lv_i2b hx hb hd rfl (k H locs ls hP hS hl)
theorem R_iushr (h : Cx lay ad X cc own nL lev ret M' v') {x y : Int32} (hd : decode cc pc = .ok (.iushr, 1)) (k : Wp lay ad X M (pc + 1) lv (.int (x.toUInt32 >>> (y.toUInt32 &&& Int32.toUInt32 31)).toInt32 :: st)) : Wp lay ad X M pc lv (.int y :: .int x :: st) := by
  obtain ⟨⟨l, D, cA, t⟩, p, e, s, m, args, below, meth, c, nL', lev', Mf, vf⟩ := X
  obtain ⟨hx, hb, hr, hml, hown, hts, hlk, hK, hI, hZ, rfl, rfl, rfl, rfl⟩ := h
  intro H locs ls hP hS hl
  exact lv_iushr hx hb hd rfl (k H locs ls hP hS hl)
theorem R_dup (h : Cx lay ad X cc own nL lev ret M' v') {va : Value} (hva : va.category = 1) (hd : decode cc pc = .ok (.dup, 1)) (k : Wp lay ad X M (pc + 1) lv (va :: va :: st)) : Wp lay ad X M pc lv (va :: st) := by
  obtain ⟨⟨l, D, cA, t⟩, p, e, s, m, args, below, meth, c, nL', lev', Mf, vf⟩ := X
  obtain ⟨hx, hb, hr, hml, hown, hts, hlk, hK, hI, hZ, rfl, rfl, rfl, rfl⟩ := h
  intro H locs ls hP hS hl
  exact lv_dup hx hb hd hva (k H locs ls hP hS hl)
theorem R_pop (h : Cx lay ad X cc own nL lev ret M' v') {va : Value} (hva : va.category = 1) (hd : decode cc pc = .ok (.pop, 1)) (k : Wp lay ad X M (pc + 1) lv (st)) : Wp lay ad X M pc lv (va :: st) := by
  obtain ⟨⟨l, D, cA, t⟩, p, e, s, m, args, below, meth, c, nL', lev', Mf, vf⟩ := X
  obtain ⟨hx, hb, hr, hml, hown, hts, hlk, hK, hI, hZ, rfl, rfl, rfl, rfl⟩ := h
  intro H locs ls hP hS hl
  exact lv_pop hx hb hd hva (k H locs ls hP hS hl)
theorem R_dup_x1 (h : Cx lay ad X cc own nL lev ret M' v') {va vb : Value} (hva : va.category = 1) (hvb : vb.category = 1) (hd : decode cc pc = .ok (.dup_x1, 1)) (k : Wp lay ad X M (pc + 1) lv (va :: vb :: va :: st)) : Wp lay ad X M pc lv (va :: vb :: st) := by
  obtain ⟨⟨l, D, cA, t⟩, p, e, s, m, args, below, meth, c, nL', lev', Mf, vf⟩ := X
  obtain ⟨hx, hb, hr, hml, hown, hts, hlk, hK, hI, hZ, rfl, rfl, rfl, rfl⟩ := h
  intro H locs ls hP hS hl
  exact lv_dup_x1 hx hb hd hva hvb (k H locs ls hP hS hl)
theorem R_dup2 (h : Cx lay ad X cc own nL lev ret M' v') {va vb : Value} (hva : va.category = 1) (hvb : vb.category = 1) (hd : decode cc pc = .ok (.dup2, 1)) (k : Wp lay ad X M (pc + 1) lv (va :: vb :: va :: vb :: st)) : Wp lay ad X M pc lv (va :: vb :: st) := by
  obtain ⟨⟨l, D, cA, t⟩, p, e, s, m, args, below, meth, c, nL', lev', Mf, vf⟩ := X
  obtain ⟨hx, hb, hr, hml, hown, hts, hlk, hK, hI, hZ, rfl, rfl, rfl, rfl⟩ := h
  intro H locs ls hP hS hl
  exact lv_dup2_11 hx hb hd hva hvb (k H locs ls hP hS hl)
theorem R_dup2L (h : Cx lay ad X cc own nL lev ret M' v') {va : Value} (hva : va.category = 2) (hd : decode cc pc = .ok (.dup2, 1)) (k : Wp lay ad X M (pc + 1) lv (va :: va :: st)) : Wp lay ad X M pc lv (va :: st) := by
  obtain ⟨⟨l, D, cA, t⟩, p, e, s, m, args, below, meth, c, nL', lev', Mf, vf⟩ := X
  obtain ⟨hx, hb, hr, hml, hown, hts, hlk, hK, hI, hZ, rfl, rfl, rfl, rfl⟩ := h
  intro H locs ls hP hS hl
  exact lv_dup2_2 hx hb hd hva (k H locs ls hP hS hl)
theorem R_pop2L (h : Cx lay ad X cc own nL lev ret M' v') {va : Value} (hva : va.category = 2) (hd : decode cc pc = .ok (.pop2, 1)) (k : Wp lay ad X M (pc + 1) lv (st)) : Wp lay ad X M pc lv (va :: st) := by
  obtain ⟨⟨l, D, cA, t⟩, p, e, s, m, args, below, meth, c, nL', lev', Mf, vf⟩ := X
  obtain ⟨hx, hb, hr, hml, hown, hts, hlk, hK, hI, hZ, rfl, rfl, rfl, rfl⟩ := h
  intro H locs ls hP hS hl
  exact lv_pop2_2 hx hb hd hva (k H locs ls hP hS hl)
theorem R_null (h : Cx lay ad X cc own nL lev ret M' v')  (hd : decode cc pc = .ok (.aconst_null, 1)) (k : Wp lay ad X M (pc + 1) lv (.null :: st)) : Wp lay ad X M pc lv (st) := by
  obtain ⟨⟨l, D, cA, t⟩, p, e, s, m, args, below, meth, c, nL', lev', Mf, vf⟩ := X
  obtain ⟨hx, hb, hr, hml, hown, hts, hlk, hK, hI, hZ, rfl, rfl, rfl, rfl⟩ := h
  intro H locs ls hP hS hl
  exact lv_null hx hb hd (k H locs ls hP hS hl)
theorem R_lcmp (h : Cx lay ad X cc own nL lev ret M' v') {x y : Int64} (hd : decode cc pc = .ok (.lcmp, 1)) (k : Wp lay ad X M (pc + 1) lv (.int (lg_cmp x y) :: st)) : Wp lay ad X M pc lv (.long y :: .long x :: st) := by
  obtain ⟨⟨l, D, cA, t⟩, p, e, s, m, args, below, meth, c, nL', lev', Mf, vf⟩ := X
  obtain ⟨hx, hb, hr, hml, hown, hts, hlk, hK, hI, hZ, rfl, rfl, rfl, rfl⟩ := h
  intro H locs ls hP hS hl
  exact W.lcmp hx hb hd (k H locs ls hP hS hl)
theorem R_idiv (h : Cx lay ad X cc own nL lev ret M' v') {x y q : Int32} (hq : dvI x y = some q) (hd : decode cc pc = .ok (.idiv, 1)) (k : Wp lay ad X M (pc + 1) lv (.int q :: st)) : Wp lay ad X M pc lv (.int y :: .int x :: st) := by
  obtain ⟨⟨l, D, cA, t⟩, p, e, s, m, args, below, meth, c, nL', lev', Mf, vf⟩ := X
  obtain ⟨hx, hb, hr, hml, hown, hts, hlk, hK, hI, hZ, rfl, rfl, rfl, rfl⟩ := h
  intro H locs ls hP hS hl
  unfold dvI at hq
  by_cases c0 : y = 0
  · rw [if_pos c0] at hq; cases hq
  · rw [if_neg c0] at hq; cases hq; exact lv_idiv hx hb hd c0 (k H locs ls hP hS hl)
theorem R_ldiv (h : Cx lay ad X cc own nL lev ret M' v') {x y q : Int64} (hq : dvL x y = some q) (hd : decode cc pc = .ok (.ldiv, 1)) (k : Wp lay ad X M (pc + 1) lv (.long q :: st)) : Wp lay ad X M pc lv (.long y :: .long x :: st) := by
  obtain ⟨⟨l, D, cA, t⟩, p, e, s, m, args, below, meth, c, nL', lev', Mf, vf⟩ := X
  obtain ⟨hx, hb, hr, hml, hown, hts, hlk, hK, hI, hZ, rfl, rfl, rfl, rfl⟩ := h
  intro H locs ls hP hS hl
  unfold dvL at hq
  by_cases c0 : y = 0
  · rw [if_pos c0] at hq; cases hq
  · rw [if_neg c0] at hq; cases hq; exact lv_ldiv hx hb hd c0 (k H locs ls hP hS hl)
theorem R_irem (h : Cx lay ad X cc own nL lev ret M' v') {x y q : Int32} (hq : rmI x y = some q) (hd : decode cc pc = .ok (.irem, 1)) (k : Wp lay ad X M (pc + 1) lv (.int q :: st)) : Wp lay ad X M pc lv (.int y :: .int x :: st) := by
  obtain ⟨⟨l, D, cA, t⟩, p, e, s, m, args, below, meth, c, nL', lev', Mf, vf⟩ := X
  obtain ⟨hx, hb, hr, hml, hown, hts, hlk, hK, hI, hZ, rfl, rfl, rfl, rfl⟩ := h
  intro H locs ls hP hS hl
  unfold rmI at hq
  by_cases c0 : y = 0
  · rw [if_pos c0] at hq; cases hq
  · rw [if_neg c0] at hq; cases hq; exact lv_irem hx hb hd c0 (k H locs ls hP hS hl)
theorem R_lrem (h : Cx lay ad X cc own nL lev ret M' v') {x y q : Int64} (hq : rmLo x y = some q) (hd : decode cc pc = .ok (.lrem, 1)) (k : Wp lay ad X M (pc + 1) lv (.long q :: st)) : Wp lay ad X M pc lv (.long y :: .long x :: st) := by
  obtain ⟨⟨l, D, cA, t⟩, p, e, s, m, args, below, meth, c, nL', lev', Mf, vf⟩ := X
  obtain ⟨hx, hb, hr, hml, hown, hts, hlk, hK, hI, hZ, rfl, rfl, rfl, rfl⟩ := h
  intro H locs ls hP hS hl
  unfold rmLo at hq
  by_cases c0 : y = 0
  · rw [if_pos c0] at hq; cases hq
  · rw [if_neg c0] at hq; cases hq; exact lv_lrem hx hb hd c0 (k H locs ls hP hS hl)
theorem R_iload_n (h : Cx lay ad X cc own nL lev ret M' v') {k : Fin 4} {i : Nat} {x : Int32} (j : Nat) (hi : (k : Nat) = i) (hk : lv[j]? = some (i, .int x)) (hd : decode cc pc = .ok (.iload_n k, 1)) (k : Wp lay ad X M (pc + 1) lv (.int x :: st)) : Wp lay ad X M pc lv (st) := by
  obtain ⟨⟨l, D, cA, t⟩, p, e, s, m, args, below, meth, c, nL', lev', Mf, vf⟩ := X
  obtain ⟨hx, hb, hr, hml, hown, hts, hlk, hK, hI, hZ, rfl, rfl, rfl, rfl⟩ := h
  intro H locs ls hP hS hl
  exact lv_iload_n hx hb hd hi (lv_at hl j hk) (k H locs ls hP hS hl)
theorem R_iload (h : Cx lay ad X cc own nL lev ret M' v') {i : Nat} {x : Int32} (j : Nat) (hk : lv[j]? = some (i, .int x)) (hd : decode cc pc = .ok (.iload i, 2)) (k : Wp lay ad X M (pc + 2) lv (.int x :: st)) : Wp lay ad X M pc lv (st) := by
  obtain ⟨⟨l, D, cA, t⟩, p, e, s, m, args, below, meth, c, nL', lev', Mf, vf⟩ := X
  obtain ⟨hx, hb, hr, hml, hown, hts, hlk, hK, hI, hZ, rfl, rfl, rfl, rfl⟩ := h
  intro H locs ls hP hS hl
  exact lv_iload hx hb hd (lv_at hl j hk) (k H locs ls hP hS hl)
theorem R_lload_n (h : Cx lay ad X cc own nL lev ret M' v') {k : Fin 4} {i : Nat} {x : Int64} (j : Nat) (hi : (k : Nat) = i) (hk : lv[j]? = some (i, .long x)) (hd : decode cc pc = .ok (.lload_n k, 1)) (k : Wp lay ad X M (pc + 1) lv (.long x :: st)) : Wp lay ad X M pc lv (st) := by
  obtain ⟨⟨l, D, cA, t⟩, p, e, s, m, args, below, meth, c, nL', lev', Mf, vf⟩ := X
  obtain ⟨hx, hb, hr, hml, hown, hts, hlk, hK, hI, hZ, rfl, rfl, rfl, rfl⟩ := h
  intro H locs ls hP hS hl
  exact lv_lload_n hx hb hd hi (lv_at hl j hk) (k H locs ls hP hS hl)
theorem R_lload (h : Cx lay ad X cc own nL lev ret M' v') {i : Nat} {x : Int64} (j : Nat) (hk : lv[j]? = some (i, .long x)) (hd : decode cc pc = .ok (.lload i, 2)) (k : Wp lay ad X M (pc + 2) lv (.long x :: st)) : Wp lay ad X M pc lv (st) := by
  obtain ⟨⟨l, D, cA, t⟩, p, e, s, m, args, below, meth, c, nL', lev', Mf, vf⟩ := X
  obtain ⟨hx, hb, hr, hml, hown, hts, hlk, hK, hI, hZ, rfl, rfl, rfl, rfl⟩ := h
  intro H locs ls hP hS hl
  exact lv_lload hx hb hd (lv_at hl j hk) (k H locs ls hP hS hl)
theorem R_aload_n (h : Cx lay ad X cc own nL lev ret M' v') {k : Fin 4} {i : Nat} {x : Nat} (j : Nat) (hi : (k : Nat) = i) (hk : lv[j]? = some (i, .ref x)) (hd : decode cc pc = .ok (.aload_n k, 1)) (k : Wp lay ad X M (pc + 1) lv (.ref x :: st)) : Wp lay ad X M pc lv (st) := by
  obtain ⟨⟨l, D, cA, t⟩, p, e, s, m, args, below, meth, c, nL', lev', Mf, vf⟩ := X
  obtain ⟨hx, hb, hr, hml, hown, hts, hlk, hK, hI, hZ, rfl, rfl, rfl, rfl⟩ := h
  intro H locs ls hP hS hl
  exact lv_aload_n hx hb hd hi (lv_at hl j hk) (k H locs ls hP hS hl)
theorem R_aload (h : Cx lay ad X cc own nL lev ret M' v') {i : Nat} {x : Nat} (j : Nat) (hk : lv[j]? = some (i, .ref x)) (hd : decode cc pc = .ok (.aload i, 2)) (k : Wp lay ad X M (pc + 2) lv (.ref x :: st)) : Wp lay ad X M pc lv (st) := by
  obtain ⟨⟨l, D, cA, t⟩, p, e, s, m, args, below, meth, c, nL', lev', Mf, vf⟩ := X
  obtain ⟨hx, hb, hr, hml, hown, hts, hlk, hK, hI, hZ, rfl, rfl, rfl, rfl⟩ := h
  intro H locs ls hP hS hl
  exact lv_aload hx hb hd (lv_at hl j hk) (k H locs ls hP hS hl)
theorem R_aload_nN (h : Cx lay ad X cc own nL lev ret M' v') {k : Fin 4} {i : Nat} (j : Nat) (hi : (k : Nat) = i) (hk : lv[j]? = some (i, .null)) (hd : decode cc pc = .ok (.aload_n k, 1)) (k : Wp lay ad X M (pc + 1) lv (.null :: st)) : Wp lay ad X M pc lv (st) := by
  obtain ⟨⟨l, D, cA, t⟩, p, e, s, m, args, below, meth, c, nL', lev', Mf, vf⟩ := X
  obtain ⟨hx, hb, hr, hml, hown, hts, hlk, hK, hI, hZ, rfl, rfl, rfl, rfl⟩ := h
  intro H locs ls hP hS hl
  exact lv_aload_nN hx hb hd hi (lv_at hl j hk) (k H locs ls hP hS hl)
theorem R_aloadN (h : Cx lay ad X cc own nL lev ret M' v') {i : Nat} (j : Nat) (hk : lv[j]? = some (i, .null)) (hd : decode cc pc = .ok (.aload i, 2)) (k : Wp lay ad X M (pc + 2) lv (.null :: st)) : Wp lay ad X M pc lv (st) := by
  obtain ⟨⟨l, D, cA, t⟩, p, e, s, m, args, below, meth, c, nL', lev', Mf, vf⟩ := X
  obtain ⟨hx, hb, hr, hml, hown, hts, hlk, hK, hI, hZ, rfl, rfl, rfl, rfl⟩ := h
  intro H locs ls hP hS hl
  exact lv_aloadN hx hb hd (lv_at hl j hk) (k H locs ls hP hS hl)
theorem R_istore_n (h : Cx lay ad X cc own nL lev ret M' v') {k : Fin 4} {i : Nat} {x x' : Int32} (he : x' = x) (hi : (k : Nat) = i) (hn : i < nL) (hf : (i, Value.int x') :: lv.filter (fun q => !(q.1 == i) && !(q.1 + 1 == i && q.2.category == 2)) = lv') (hd : decode cc pc = .ok (.istore_n k, 1)) (k : Wp lay ad X M (pc + 1) lv' (st)) : Wp lay ad X M pc lv (.int x :: st) := by
  obtain ⟨⟨l, D, cA, t⟩, p, e, s, m, args, below, meth, c, nL', lev', Mf, vf⟩ := X
  obtain ⟨hx, hb, hr, hml, hown, hts, hlk, hK, hI, hZ, rfl, rfl, rfl, rfl⟩ := h
  intro H locs ls hP hS hl
  subst he; exact lv_istore_n hx hb hd hi hl hn hf (fun ls' hl' => k H locs ls' hP hS hl')
theorem R_istore (h : Cx lay ad X cc own nL lev ret M' v') {i : Nat} {x x' : Int32} (he : x' = x) (hn : i < nL) (hf : (i, Value.int x') :: lv.filter (fun q => !(q.1 == i) && !(q.1 + 1 == i && q.2.category == 2)) = lv') (hd : decode cc pc = .ok (.istore i, 2)) (k : Wp lay ad X M (pc + 2) lv' (st)) : Wp lay ad X M pc lv (.int x :: st) := by
  obtain ⟨⟨l, D, cA, t⟩, p, e, s, m, args, below, meth, c, nL', lev', Mf, vf⟩ := X
  obtain ⟨hx, hb, hr, hml, hown, hts, hlk, hK, hI, hZ, rfl, rfl, rfl, rfl⟩ := h
  intro H locs ls hP hS hl
  subst he; exact lv_istore hx hb hd hl hn hf (fun ls' hl' => k H locs ls' hP hS hl')
theorem R_lstore_n (h : Cx lay ad X cc own nL lev ret M' v') {k : Fin 4} {i : Nat} {x x' : Int64} (he : x' = x) (hi : (k : Nat) = i) (hn : i + 1 < nL) (hf : (i, Value.long x') :: lv.filter (fun q => !(q.1 == i) && (!(q.1 == i + 1) && !(q.1 + 1 == i && q.2.category == 2))) = lv') (hd : decode cc pc = .ok (.lstore_n k, 1)) (k : Wp lay ad X M (pc + 1) lv' (st)) : Wp lay ad X M pc lv (.long x :: st) := by
  obtain ⟨⟨l, D, cA, t⟩, p, e, s, m, args, below, meth, c, nL', lev', Mf, vf⟩ := X
  obtain ⟨hx, hb, hr, hml, hown, hts, hlk, hK, hI, hZ, rfl, rfl, rfl, rfl⟩ := h
  intro H locs ls hP hS hl
  subst he; exact lv_lstore_n hx hb hd hi hl hn hf (fun ls' hl' => k H locs ls' hP hS hl')
theorem R_lstore (h : Cx lay ad X cc own nL lev ret M' v') {i : Nat} {x x' : Int64} (he : x' = x) (hn : i + 1 < nL) (hf : (i, Value.long x') :: lv.filter (fun q => !(q.1 == i) && (!(q.1 == i + 1) && !(q.1 + 1 == i && q.2.category == 2))) = lv') (hd : decode cc pc = .ok (.lstore i, 2)) (k : Wp lay ad X M (pc + 2) lv' (st)) : Wp lay ad X M pc lv (.long x :: st) := by
  obtain ⟨⟨l, D, cA, t⟩, p, e, s, m, args, below, meth, c, nL', lev', Mf, vf⟩ := X
  obtain ⟨hx, hb, hr, hml, hown, hts, hlk, hK, hI, hZ, rfl, rfl, rfl, rfl⟩ := h
  intro H locs ls hP hS hl
  subst he; exact lv_lstore hx hb hd hl hn hf (fun ls' hl' => k H locs ls' hP hS hl')
theorem R_astore_n (h : Cx lay ad X cc own nL lev ret M' v') {k : Fin 4} {i : Nat} {x x' : Nat} (he : x' = x) (hi : (k : Nat) = i) (hn : i < nL) (hf : (i, Value.ref x') :: lv.filter (fun q => !(q.1 == i) && !(q.1 + 1 == i && q.2.category == 2)) = lv') (hd : decode cc pc = .ok (.astore_n k, 1)) (k : Wp lay ad X M (pc + 1) lv' (st)) : Wp lay ad X M pc lv (.ref x :: st) := by
  obtain ⟨⟨l, D, cA, t⟩, p, e, s, m, args, below, meth, c, nL', lev', Mf, vf⟩ := X
  obtain ⟨hx, hb, hr, hml, hown, hts, hlk, hK, hI, hZ, rfl, rfl, rfl, rfl⟩ := h
  intro H locs ls hP hS hl
  subst he; exact lv_astore_n hx hb hd hi hl hn hf (fun ls' hl' => k H locs ls' hP hS hl')
theorem R_astore (h : Cx lay ad X cc own nL lev ret M' v') {i : Nat} {x x' : Nat} (he : x' = x) (hn : i < nL) (hf : (i, Value.ref x') :: lv.filter (fun q => !(q.1 == i) && !(q.1 + 1 == i && q.2.category == 2)) = lv') (hd : decode cc pc = .ok (.astore i, 2)) (k : Wp lay ad X M (pc + 2) lv' (st)) : Wp lay ad X M pc lv (.ref x :: st) := by
  obtain ⟨⟨l, D, cA, t⟩, p, e, s, m, args, below, meth, c, nL', lev', Mf, vf⟩ := X
  obtain ⟨hx, hb, hr, hml, hown, hts, hlk, hK, hI, hZ, rfl, rfl, rfl, rfl⟩ := h
  intro H locs ls hP hS hl
  subst he; exact lv_astore hx hb hd hl hn hf (fun ls' hl' => k H locs ls' hP hS hl')
theorem R_astore_nN (h : Cx lay ad X cc own nL lev ret M' v') {k : Fin 4} {i : Nat} (hi : (k : Nat) = i) (hn : i < nL) (hf : (i, Value.null) :: lv.filter (fun q => !(q.1 == i) && !(q.1 + 1 == i && q.2.category == 2)) = lv') (hd : decode cc pc = .ok (.astore_n k, 1)) (k : Wp lay ad X M (pc + 1) lv' (st)) : Wp lay ad X M pc lv (.null :: st) := by
  obtain ⟨⟨l, D, cA, t⟩, p, e, s, m, args, below, meth, c, nL', lev', Mf, vf⟩ := X
  obtain ⟨hx, hb, hr, hml, hown, hts, hlk, hK, hI, hZ, rfl, rfl, rfl, rfl⟩ := h
  intro H locs ls hP hS hl
  exact lv_astore_nN hx hb hd hi hl hn hf (fun ls' hl' => k H locs ls' hP hS hl')
theorem R_astoreN (h : Cx lay ad X cc own nL lev ret M' v') {i : Nat} (hn : i < nL) (hf : (i, Value.null) :: lv.filter (fun q => !(q.1 == i) && !(q.1 + 1 == i && q.2.category == 2)) = lv') (hd : decode cc pc = .ok (.astore i, 2)) (k : Wp lay ad X M (pc + 2) lv' (st)) : Wp lay ad X M pc lv (.null :: st) := by
  obtain ⟨⟨l, D, cA, t⟩, p, e, s, m, args, below, meth, c, nL', lev', Mf, vf⟩ := X
  obtain ⟨hx, hb, hr, hml, hown, hts, hlk, hK, hI, hZ, rfl, rfl, rfl, rfl⟩ := h
  intro H locs ls hP hS hl
  exact lv_astoreN hx hb hd hl hn hf (fun ls' hl' => k H locs ls' hP hS hl')
theorem R_iinc (h : Cx lay ad X cc own nL lev ret M' v') {i : Nat} {n : Int} {x x' : Int32} (j : Nat) (hk : lv[j]? = some (i, .int x)) (he : x' = x + Int32.ofInt n) (hn : i < nL) (hf : (i, Value.int x') :: lv.filter (fun q => !(q.1 == i) && !(q.1 + 1 == i && q.2.category == 2)) = lv') (hd : decode cc pc = .ok (.iinc i n, 3)) (k : Wp lay ad X M (pc + 3) lv' (st)) : Wp lay ad X M pc lv (st) := by
  obtain ⟨⟨l, D, cA, t⟩, p, e, s, m, args, below, meth, c, nL', lev', Mf, vf⟩ := X
  obtain ⟨hx, hb, hr, hml, hown, hts, hlk, hK, hI, hZ, rfl, rfl, rfl, rfl⟩ := h
  intro H locs ls hP hS hl
  exact lv_iinc hx hb hd hl hk he.symm hn hf (fun ls' hl' => k H locs ls' hP hS hl')
theorem R_if_eq (h : Cx lay ad X cc own nL lev ret M' v') {x : Int32} {off : Int} {tgt : Nat} (hd : decode cc pc = .ok (.ifCond .eq off, 3)) (ht : (pc : Int) + off = (tgt : Int)) (kt : x = 0 → Wp lay ad X M tgt lv (st)) (kf : ¬ x = 0 → Wp lay ad X M (pc + 3) lv (st)) : Wp lay ad X M pc lv (.int x :: st) := by
  obtain ⟨⟨l, D, cA, t⟩, p, e, s, m, args, below, meth, c, nL', lev', Mf, vf⟩ := X
  obtain ⟨hx, hb, hr, hml, hown, hts, hlk, hK, hI, hZ, rfl, rfl, rfl, rfl⟩ := h
  intro H locs ls hP hS hl
  exact lv_if_eq hx hb hd ht (fun c => kt c H locs ls hP hS hl) (fun c => kf c H locs ls hP hS hl)
theorem R_icmp_eq (h : Cx lay ad X cc own nL lev ret M' v') {x y : Int32} {off : Int} {tgt : Nat} (hd : decode cc pc = .ok (.if_icmp .eq off, 3)) (ht : (pc : Int) + off = (tgt : Int)) (kt : x = y → Wp lay ad X M tgt lv (st)) (kf : ¬ x = y → Wp lay ad X M (pc + 3) lv (st)) : Wp lay ad X M pc lv (.int y :: .int x :: st) := by
  obtain ⟨⟨l, D, cA, t⟩, p, e, s, m, args, below, meth, c, nL', lev', Mf, vf⟩ := X
  obtain ⟨hx, hb, hr, hml, hown, hts, hlk, hK, hI, hZ, rfl, rfl, rfl, rfl⟩ := h
  intro H locs ls hP hS hl
  exact lv_icmp_eq hx hb hd ht (fun c => kt c H locs ls hP hS hl) (fun c => kf c H locs ls hP hS hl)
theorem R_if_ne (h : Cx lay ad X cc own nL lev ret M' v') {x : Int32} {off : Int} {tgt : Nat} (hd : decode cc pc = .ok (.ifCond .ne off, 3)) (ht : (pc : Int) + off = (tgt : Int)) (kt : ¬ x = 0 → Wp lay ad X M tgt lv (st)) (kf : x = 0 → Wp lay ad X M (pc + 3) lv (st)) : Wp lay ad X M pc lv (.int x :: st) := by
  obtain ⟨⟨l, D, cA, t⟩, p, e, s, m, args, below, meth, c, nL', lev', Mf, vf⟩ := X
  obtain ⟨hx, hb, hr, hml, hown, hts, hlk, hK, hI, hZ, rfl, rfl, rfl, rfl⟩ := h
  intro H locs ls hP hS hl
  exact lv_if_ne hx hb hd ht (fun c => kt c H locs ls hP hS hl) (fun c => kf c H locs ls hP hS hl)
theorem R_icmp_ne (h : Cx lay ad X cc own nL lev ret M' v') {x y : Int32} {off : Int} {tgt : Nat} (hd : decode cc pc = .ok (.if_icmp .ne off, 3)) (ht : (pc : Int) + off = (tgt : Int)) (kt : ¬ x = y → Wp lay ad X M tgt lv (st)) (kf : x = y → Wp lay ad X M (pc + 3) lv (st)) : Wp lay ad X M pc lv (.int y :: .int x :: st) := by
  obtain ⟨⟨l, D, cA, t⟩, p, e, s, m, args, below, meth, c, nL', lev', Mf, vf⟩ := X
  obtain ⟨hx, hb, hr, hml, hown, hts, hlk, hK, hI, hZ, rfl, rfl, rfl, rfl⟩ := h
  intro H locs ls hP hS hl
  exact lv_icmp_ne hx hb hd ht (fun c => kt c H locs ls hP hS hl) (fun c => kf c H locs ls hP hS hl)
theorem R_if_lt (h : Cx lay ad X cc own nL lev ret M' v') {x : Int32} {off : Int} {tgt : Nat} (hd : decode cc pc = .ok (.ifCond .lt off, 3)) (ht : (pc : Int) + off = (tgt : Int)) (kt : x < 0 → Wp lay ad X M tgt lv (st)) (kf : ¬ x < 0 → Wp lay ad X M (pc + 3) lv (st)) : Wp lay ad X M pc lv (.int x :: st) := by
  obtain ⟨⟨l, D, cA, t⟩, p, e, s, m, args, below, meth, c, nL', lev', Mf, vf⟩ := X
  obtain ⟨hx, hb, hr, hml, hown, hts, hlk, hK, hI, hZ, rfl, rfl, rfl, rfl⟩ := h
  intro H locs ls hP hS hl
  exact lv_if_lt hx hb hd ht (fun c => kt c H locs ls hP hS hl) (fun c => kf c H locs ls hP hS hl)
theorem R_icmp_lt (h : Cx lay ad X cc own nL lev ret M' v') {x y : Int32} {off : Int} {tgt : Nat} (hd : decode cc pc = .ok (.if_icmp .lt off, 3)) (ht : (pc : Int) + off = (tgt : Int)) (kt : x < y → Wp lay ad X M tgt lv (st)) (kf : ¬ x < y → Wp lay ad X M (pc + 3) lv (st)) : Wp lay ad X M pc lv (.int y :: .int x :: st) := by
  obtain ⟨⟨l, D, cA, t⟩, p, e, s, m, args, below, meth, c, nL', lev', Mf, vf⟩ := X
  obtain ⟨hx, hb, hr, hml, hown, hts, hlk, hK, hI, hZ, rfl, rfl, rfl, rfl⟩ := h
  intro H locs ls hP hS hl
  exact lv_icmp_lt hx hb hd ht (fun c => kt c H locs ls hP hS hl) (fun c => kf c H locs ls hP hS hl)
theorem R_if_ge (h : Cx lay ad X cc own nL lev ret M' v') {x : Int32} {off : Int} {tgt : Nat} (hd : decode cc pc = .ok (.ifCond .ge off, 3)) (ht : (pc : Int) + off = (tgt : Int)) (kt : 0 ≤ x → Wp lay ad X M tgt lv (st)) (kf : ¬ 0 ≤ x → Wp lay ad X M (pc + 3) lv (st)) : Wp lay ad X M pc lv (.int x :: st) := by
  obtain ⟨⟨l, D, cA, t⟩, p, e, s, m, args, below, meth, c, nL', lev', Mf, vf⟩ := X
  obtain ⟨hx, hb, hr, hml, hown, hts, hlk, hK, hI, hZ, rfl, rfl, rfl, rfl⟩ := h
  intro H locs ls hP hS hl
  exact lv_if_ge hx hb hd ht (fun c => kt c H locs ls hP hS hl) (fun c => kf c H locs ls hP hS hl)
theorem R_icmp_ge (h : Cx lay ad X cc own nL lev ret M' v') {x y : Int32} {off : Int} {tgt : Nat} (hd : decode cc pc = .ok (.if_icmp .ge off, 3)) (ht : (pc : Int) + off = (tgt : Int)) (kt : y ≤ x → Wp lay ad X M tgt lv (st)) (kf : ¬ y ≤ x → Wp lay ad X M (pc + 3) lv (st)) : Wp lay ad X M pc lv (.int y :: .int x :: st) := by
  obtain ⟨⟨l, D, cA, t⟩, p, e, s, m, args, below, meth, c, nL', lev', Mf, vf⟩ := X
  obtain ⟨hx, hb, hr, hml, hown, hts, hlk, hK, hI, hZ, rfl, rfl, rfl, rfl⟩ := h
  intro H locs ls hP hS hl
  exact lv_icmp_ge hx hb hd ht (fun c => kt c H locs ls hP hS hl) (fun c => kf c H locs ls hP hS hl)
theorem R_if_gt (h : Cx lay ad X cc own nL lev ret M' v') {x : Int32} {off : Int} {tgt : Nat} (hd : decode cc pc = .ok (.ifCond .gt off, 3)) (ht : (pc : Int) + off = (tgt : Int)) (kt : 0 < x → Wp lay ad X M tgt lv (st)) (kf : ¬ 0 < x → Wp lay ad X M (pc + 3) lv (st)) : Wp lay ad X M pc lv (.int x :: st) := by
  obtain ⟨⟨l, D, cA, t⟩, p, e, s, m, args, below, meth, c, nL', lev', Mf, vf⟩ := X
  obtain ⟨hx, hb, hr, hml, hown, hts, hlk, hK, hI, hZ, rfl, rfl, rfl, rfl⟩ := h
  intro H locs ls hP hS hl
  exact lv_if_gt hx hb hd ht (fun c => kt c H locs ls hP hS hl) (fun c => kf c H locs ls hP hS hl)
theorem R_icmp_gt (h : Cx lay ad X cc own nL lev ret M' v') {x y : Int32} {off : Int} {tgt : Nat} (hd : decode cc pc = .ok (.if_icmp .gt off, 3)) (ht : (pc : Int) + off = (tgt : Int)) (kt : y < x → Wp lay ad X M tgt lv (st)) (kf : ¬ y < x → Wp lay ad X M (pc + 3) lv (st)) : Wp lay ad X M pc lv (.int y :: .int x :: st) := by
  obtain ⟨⟨l, D, cA, t⟩, p, e, s, m, args, below, meth, c, nL', lev', Mf, vf⟩ := X
  obtain ⟨hx, hb, hr, hml, hown, hts, hlk, hK, hI, hZ, rfl, rfl, rfl, rfl⟩ := h
  intro H locs ls hP hS hl
  exact lv_icmp_gt hx hb hd ht (fun c => kt c H locs ls hP hS hl) (fun c => kf c H locs ls hP hS hl)
theorem R_if_le (h : Cx lay ad X cc own nL lev ret M' v') {x : Int32} {off : Int} {tgt : Nat} (hd : decode cc pc = .ok (.ifCond .le off, 3)) (ht : (pc : Int) + off = (tgt : Int)) (kt : x ≤ 0 → Wp lay ad X M tgt lv (st)) (kf : ¬ x ≤ 0 → Wp lay ad X M (pc + 3) lv (st)) : Wp lay ad X M pc lv (.int x :: st) := by
  obtain ⟨⟨l, D, cA, t⟩, p, e, s, m, args, below, meth, c, nL', lev', Mf, vf⟩ := X
  obtain ⟨hx, hb, hr, hml, hown, hts, hlk, hK, hI, hZ, rfl, rfl, rfl, rfl⟩ := h
  intro H locs ls hP hS hl
  exact lv_if_le hx hb hd ht (fun c => kt c H locs ls hP hS hl) (fun c => kf c H locs ls hP hS hl)
theorem R_icmp_le (h : Cx lay ad X cc own nL lev ret M' v') {x y : Int32} {off : Int} {tgt : Nat} (hd : decode cc pc = .ok (.if_icmp .le off, 3)) (ht : (pc : Int) + off = (tgt : Int)) (kt : x ≤ y → Wp lay ad X M tgt lv (st)) (kf : ¬ x ≤ y → Wp lay ad X M (pc + 3) lv (st)) : Wp lay ad X M pc lv (.int y :: .int x :: st) := by
  obtain ⟨⟨l, D, cA, t⟩, p, e, s, m, args, below, meth, c, nL', lev', Mf, vf⟩ := X
  obtain ⟨hx, hb, hr, hml, hown, hts, hlk, hK, hI, hZ, rfl, rfl, rfl, rfl⟩ := h
  intro H locs ls hP hS hl
  exact lv_icmp_le hx hb hd ht (fun c => kt c H locs ls hP hS hl) (fun c => kf c H locs ls hP hS hl)
theorem R_goto (h : Cx lay ad X cc own nL lev ret M' v') {off : Int} {tgt : Nat} (hd : decode cc pc = .ok (.goto off, 3)) (ht : (pc : Int) + off = (tgt : Int)) (k : Wp lay ad X M tgt lv (st)) : Wp lay ad X M pc lv (st) := by
  obtain ⟨⟨l, D, cA, t⟩, p, e, s, m, args, below, meth, c, nL', lev', Mf, vf⟩ := X
  obtain ⟨hx, hb, hr, hml, hown, hts, hlk, hK, hI, hZ, rfl, rfl, rfl, rfl⟩ := h
  intro H locs ls hP hS hl
  exact lv_goto hx hb hd ht (k H locs ls hP hS hl)
theorem R_ifnonnull (h : Cx lay ad X cc own nL lev ret M' v') {x : Nat} {off : Int} {tgt : Nat} (hd : decode cc pc = .ok (.ifnonnull off, 3)) (ht : (pc : Int) + off = (tgt : Int)) (k : Wp lay ad X M tgt lv (st)) : Wp lay ad X M pc lv (.ref x :: st) := by
  obtain ⟨⟨l, D, cA, t⟩, p, e, s, m, args, below, meth, c, nL', lev', Mf, vf⟩ := X
  obtain ⟨hx, hb, hr, hml, hown, hts, hlk, hK, hI, hZ, rfl, rfl, rfl, rfl⟩ := h
  intro H locs ls hP hS hl
  exact lv_ifnonnull hx hb hd ht (k H locs ls hP hS hl)
theorem R_ifnull (h : Cx lay ad X cc own nL lev ret M' v') {x : Nat} {off : Int} (hd : decode cc pc = .ok (.ifnull off, 3)) (k : Wp lay ad X M (pc + 3) lv (st)) : Wp lay ad X M pc lv (.ref x :: st) := by
  obtain ⟨⟨l, D, cA, t⟩, p, e, s, m, args, below, meth, c, nL', lev', Mf, vf⟩ := X
  obtain ⟨hx, hb, hr, hml, hown, hts, hlk, hK, hI, hZ, rfl, rfl, rfl, rfl⟩ := h
  intro H locs ls hP hS hl
  exact lv_ifnull hx hb hd (k H locs ls hP hS hl)
theorem R_ifnullN (h : Cx lay ad X cc own nL lev ret M' v') {off : Int} {tgt : Nat} (hd : decode cc pc = .ok (.ifnull off, 3)) (ht : (pc : Int) + off = (tgt : Int)) (k : Wp lay ad X M tgt lv (st)) : Wp lay ad X M pc lv (.null :: st) := by
  obtain ⟨⟨l, D, cA, t⟩, p, e, s, m, args, below, meth, c, nL', lev', Mf, vf⟩ := X
  obtain ⟨hx, hb, hr, hml, hown, hts, hlk, hK, hI, hZ, rfl, rfl, rfl, rfl⟩ := h
  intro H locs ls hP hS hl
  exact lv_ifnullN hx hb hd ht (k H locs ls hP hS hl)
theorem R_ifnonnullN (h : Cx lay ad X cc own nL lev ret M' v') {off : Int} (hd : decode cc pc = .ok (.ifnonnull off, 3)) (k : Wp lay ad X M (pc + 3) lv (st)) : Wp lay ad X M pc lv (.null :: st) := by
  obtain ⟨⟨l, D, cA, t⟩, p, e, s, m, args, below, meth, c, nL', lev', Mf, vf⟩ := X
  obtain ⟨hx, hb, hr, hml, hown, hts, hlk, hK, hI, hZ, rfl, rfl, rfl, rfl⟩ := h
  intro H locs ls hP hS hl
  exact lv_ifnonnullN hx hb hd (k H locs ls hP hS hl)
theorem R_tableIn (h : Cx lay ad X cc own nL lev ret M' v') {dflt lo hi : Int} {offs : Array Int} {len : Nat} {x : Int32} {off : Int} {tgt : Nat} (hd : decode cc pc = .ok (.tableswitch dflt lo hi offs, len)) (h1 : ¬ x.toInt < lo) (h2 : ¬ hi < x.toInt) (ho : offs[(x.toInt - lo).toNat]? = some off) (ht : (pc : Int) + off = (tgt : Int)) (k : Wp lay ad X M tgt lv (st)) : Wp lay ad X M pc lv (.int x :: st) := by
  obtain ⟨⟨l, D, cA, t⟩, p, e, s, m, args, below, meth, c, nL', lev', Mf, vf⟩ := X
  obtain ⟨hx, hb, hr, hml, hown, hts, hlk, hK, hI, hZ, rfl, rfl, rfl, rfl⟩ := h
  intro H locs ls hP hS hl
  exact lv_tableIn hx hb hd h1 h2 ho ht (k H locs ls hP hS hl)
theorem R_tableOut (h : Cx lay ad X cc own nL lev ret M' v') {dflt lo hi : Int} {offs : Array Int} {len : Nat} {x : Int32} {tgt : Nat} (hd : decode cc pc = .ok (.tableswitch dflt lo hi offs, len)) (ho : x.toInt < lo ∨ hi < x.toInt) (ht : (pc : Int) + dflt = (tgt : Int)) (k : Wp lay ad X M tgt lv (st)) : Wp lay ad X M pc lv (.int x :: st) := by
  obtain ⟨⟨l, D, cA, t⟩, p, e, s, m, args, below, meth, c, nL', lev', Mf, vf⟩ := X
  obtain ⟨hx, hb, hr, hml, hown, hts, hlk, hK, hI, hZ, rfl, rfl, rfl, rfl⟩ := h
  intro H locs ls hP hS hl
  exact lv_tableOut hx hb hd ho ht (k H locs ls hP hS hl)
theorem R_lookup (h : Cx lay ad X cc own nL lev ret M' v') {dflt : Int} {ps : Array (Int × Int)} {len : Nat} {x : Int32} {off : Int} {tgt : Nat} (hd : decode cc pc = .ok (.lookupswitch dflt ps, len)) (hp : (ps.toList.zip (ps.toList.drop 1)).all (fun (a, next) => a.1 < next.1) = true) (ho : Op.lookupswitch.offset ps.toList dflt x.toInt = off) (ht : (pc : Int) + off = (tgt : Int)) (k : Wp lay ad X M tgt lv (st)) : Wp lay ad X M pc lv (.int x :: st) := by
  obtain ⟨⟨l, D, cA, t⟩, p, e, s, m, args, below, meth, c, nL', lev', Mf, vf⟩ := X
  obtain ⟨hx, hb, hr, hml, hown, hts, hlk, hK, hI, hZ, rfl, rfl, rfl, rfl⟩ := h
  intro H locs ls hP hS hl
  exact lv_lookup hx hb hd hp ho ht (k H locs ls hP hS hl)
theorem R_ldc (h : Cx lay ad X cc own nL lev ret M' v') {idx : Nat} {v : Int32} (hw : Cond.constant own idx v ∈ lw_good) (hd : decode cc pc = .ok (.ldc idx, 2)) (k : Wp lay ad X M (pc + 2) lv (.int v :: st)) : Wp lay ad X M pc lv (st) := by
  obtain ⟨⟨l, D, cA, t⟩, p, e, s, m, args, below, meth, c, nL', lev', Mf, vf⟩ := X
  obtain ⟨hx, hb, hr, hml, hown, hts, hlk, hK, hI, hZ, rfl, rfl, rfl, rfl⟩ := h
  intro H locs ls hP hS hl
  exact lv_ldc hx hb hown (hts _ hw) hd (k H locs ls hP hS hl)
theorem R_ldcw (h : Cx lay ad X cc own nL lev ret M' v') {idx : Nat} {v : Int32} (hw : Cond.constant own idx v ∈ lw_good) (hd : decode cc pc = .ok (.ldc_w idx, 3)) (k : Wp lay ad X M (pc + 3) lv (.int v :: st)) : Wp lay ad X M pc lv (st) := by
  obtain ⟨⟨l, D, cA, t⟩, p, e, s, m, args, below, meth, c, nL', lev', Mf, vf⟩ := X
  obtain ⟨hx, hb, hr, hml, hown, hts, hlk, hK, hI, hZ, rfl, rfl, rfl, rfl⟩ := h
  intro H locs ls hP hS hl
  exact lv_ldcw hx hb hown (hts _ hw) hd (k H locs ls hP hS hl)
theorem R_ldc2 (h : Cx lay ad X cc own nL lev ret M' v') {idx : Nat} {v : Int64} (hw : Cond.constantLong own idx v ∈ lw_good) (hd : decode cc pc = .ok (.ldc2_w idx, 3)) (k : Wp lay ad X M (pc + 3) lv (.long v :: st)) : Wp lay ad X M pc lv (st) := by
  obtain ⟨⟨l, D, cA, t⟩, p, e, s, m, args, below, meth, c, nL', lev', Mf, vf⟩ := X
  obtain ⟨hx, hb, hr, hml, hown, hts, hlk, hK, hI, hZ, rfl, rfl, rfl, rfl⟩ := h
  intro H locs ls hP hS hl
  exact lv_ldc2 hx hb hown (hts _ hw) hd (k H locs ls hP hS hl)
theorem R_getI (h : Cx lay ad X cc own nL lev ret M' v') {idx ci k0 q0 q1 : Nat} {fs : List Nat} (hf : FL own idx ci k0) (hly : lay[q0]? = some (.inl (ci, fs))) (hk : fs[k0]? = some 0) (hd : decode cc pc = .ok (.getfield idx, 3)) (k : Wp lay ad X M (pc + 3) lv (.int (M.1 q0 k0) :: st)) : Wp lay ad X M pc lv (.ref (ad q0) :: st) := by
  obtain ⟨⟨l, D, cA, t⟩, p, e, s, m, args, below, meth, c, nL', lev', Mf, vf⟩ := X
  obtain ⟨hx, hb, hr, hml, hown, hts, hlk, hK, hI, hZ, rfl, rfl, rfl, rfl⟩ := h
  intro H locs ls hP hS hl
  obtain ⟨C, T, N, hc, hkN, hin, hlw⟩ := hf
  exact va_get hx hb hts hin hown hK hP q0 (wsOf_get hly) hc k0 hkN (hts _ hlw) (fun _ h9 => h9) (v := .int (M.1 q0 k0)) (by simp [List.getElem?_mapIdx, hk, fv]) hd (k H locs ls hP hS hl)
theorem R_getL (h : Cx lay ad X cc own nL lev ret M' v') {idx ci k0 q0 q1 : Nat} {fs : List Nat} (hf : FL own idx ci k0) (hly : lay[q0]? = some (.inl (ci, fs))) (hk : fs[k0]? = some 1) (hd : decode cc pc = .ok (.getfield idx, 3)) (k : Wp lay ad X M (pc + 3) lv (.long (M.2 q0 k0) :: st)) : Wp lay ad X M pc lv (.ref (ad q0) :: st) := by
  obtain ⟨⟨l, D, cA, t⟩, p, e, s, m, args, below, meth, c, nL', lev', Mf, vf⟩ := X
  obtain ⟨hx, hb, hr, hml, hown, hts, hlk, hK, hI, hZ, rfl, rfl, rfl, rfl⟩ := h
  intro H locs ls hP hS hl
  obtain ⟨C, T, N, hc, hkN, hin, hlw⟩ := hf
  exact va_get hx hb hts hin hown hK hP q0 (wsOf_get hly) hc k0 hkN (hts _ hlw) (fun _ h9 => h9) (v := .long (M.2 q0 k0)) (by simp [List.getElem?_mapIdx, hk, fv]) hd (k H locs ls hP hS hl)
theorem R_getR (h : Cx lay ad X cc own nL lev ret M' v') {idx ci k0 q0 q1 : Nat} {fs : List Nat} (hf : FL own idx ci k0) (hly : lay[q0]? = some (.inl (ci, fs))) (hk : fs[k0]? = some (q1 + 2)) (hd : decode cc pc = .ok (.getfield idx, 3)) (k : Wp lay ad X M (pc + 3) lv (.ref (ad q1) :: st)) : Wp lay ad X M pc lv (.ref (ad q0) :: st) := by
  obtain ⟨⟨l, D, cA, t⟩, p, e, s, m, args, below, meth, c, nL', lev', Mf, vf⟩ := X
  obtain ⟨hx, hb, hr, hml, hown, hts, hlk, hK, hI, hZ, rfl, rfl, rfl, rfl⟩ := h
  intro H locs ls hP hS hl
  obtain ⟨C, T, N, hc, hkN, hin, hlw⟩ := hf
  exact va_get hx hb hts hin hown hK hP q0 (wsOf_get hly) hc k0 hkN (hts _ hlw) (fun _ h9 => h9) (v := .ref (ad q1)) (by simp [List.getElem?_mapIdx, hk, fv]) hd (k H locs ls hP hS hl)
theorem R_putI (h : Cx lay ad X cc own nL lev ret M' v') {idx ci k0 q0 : Nat} {fs : List Nat} {x : Int32} {M1 : Mem} (hM : M1 = sI M q0 k0 x) (hf : FP own idx ci k0 .int) (hly : lay[q0]? = some (.inl (ci, fs))) (hk : fs[k0]? = some 0) (hd : decode cc pc = .ok (.putfield idx, 3)) (k : Wp lay ad X M1 (pc + 3) lv (st)) : Wp lay ad X M pc lv (.int x :: .ref (ad q0) :: st) := by
  obtain ⟨⟨l, D, cA, t⟩, p, e, s, m, args, below, meth, c, nL', lev', Mf, vf⟩ := X
  obtain ⟨hx, hb, hr, hml, hown, hts, hlk, hK, hI, hZ, rfl, rfl, rfl, rfl⟩ := h
  intro H locs ls hP hS hl
  obtain ⟨C, T, N, ty0, hc, hkN, hin, hlw, hty, hnm, hfin, hpf⟩ := hf
  have hlen : k0 < fs.length := (List.getElem?_eq_some_iff.mp hk).1
  refine va_put hx hb hts hin ty0 hty hnm hown hK hP (wsOf_D hI) hS q0 (wsOf_get hly) hc k0 hkN (hts _ hlw) (fun _ h9 => h9) hfin hpf (v := .int x) rfl rfl (by simpa using hlen) hd (fun H1 locs1 hP1 _ hS1 => ?_)
  have e : (wsOf lay ad cA M).set q0 (ad q0, .inr (ci, (fs.mapIdx (fv ad M q0)).set k0 (.int x))) = wsOf lay ad cA M1 := by
    subst hM
    refine wsOf_set hly sI_ne ?_
    show Sum.inr (ci, (fs.mapIdx (fv ad M q0)).set k0 (.int x)) = Sum.inr (ci, fs.mapIdx (fv ad (sI M q0 k0 x) q0))
    rw [put_I hk]
  rw [e] at hP1
  exact k H1 locs1 ls hP1 hS1 hl
theorem R_putL (h : Cx lay ad X cc own nL lev ret M' v') {idx ci k0 q0 : Nat} {fs : List Nat} {x : Int64} {M1 : Mem} (hM : M1 = sL M q0 k0 x) (hf : FP own idx ci k0 .long) (hly : lay[q0]? = some (.inl (ci, fs))) (hk : fs[k0]? = some 1) (hd : decode cc pc = .ok (.putfield idx, 3)) (k : Wp lay ad X M1 (pc + 3) lv (st)) : Wp lay ad X M pc lv (.long x :: .ref (ad q0) :: st) := by
  obtain ⟨⟨l, D, cA, t⟩, p, e, s, m, args, below, meth, c, nL', lev', Mf, vf⟩ := X
  obtain ⟨hx, hb, hr, hml, hown, hts, hlk, hK, hI, hZ, rfl, rfl, rfl, rfl⟩ := h
  intro H locs ls hP hS hl
  obtain ⟨C, T, N, ty0, hc, hkN, hin, hlw, hty, hnm, hfin, hpf⟩ := hf
  have hlen : k0 < fs.length := (List.getElem?_eq_some_iff.mp hk).1
  refine va_put hx hb hts hin ty0 hty hnm hown hK hP (wsOf_D hI) hS q0 (wsOf_get hly) hc k0 hkN (hts _ hlw) (fun _ h9 => h9) hfin hpf (v := .long x) rfl rfl (by simpa using hlen) hd (fun H1 locs1 hP1 _ hS1 => ?_)
  have e : (wsOf lay ad cA M).set q0 (ad q0, .inr (ci, (fs.mapIdx (fv ad M q0)).set k0 (.long x))) = wsOf lay ad cA M1 := by
    subst hM
    refine wsOf_set hly sL_ne ?_
    show Sum.inr (ci, (fs.mapIdx (fv ad M q0)).set k0 (.long x)) = Sum.inr (ci, fs.mapIdx (fv ad (sL M q0 k0 x) q0))
    rw [put_L hk]
  rw [e] at hP1
  exact k H1 locs1 ls hP1 hS1 hl
theorem R_iald (h : Cx lay ad X cc own nL lev ret M' v') {q0 n : Nat} {i v : Int32} (hrd : rd M q0 n i = some v) (hly : lay[q0]? = some (.inr (.inl (0, n)))) (hd : decode cc pc = .ok (.iaload, 1)) (k : Wp lay ad X M (pc + 1) lv (.int v :: st)) : Wp lay ad X M pc lv (.int i :: .ref (ad q0) :: st) := by
  obtain ⟨⟨l, D, cA, t⟩, p, e, s, m, args, below, meth, c, nL', lev', Mf, vf⟩ := X
  obtain ⟨hx, hb, hr, hml, hown, hts, hlk, hK, hI, hZ, rfl, rfl, rfl, rfl⟩ := h
  intro H locs ls hP hS hl
  obtain ⟨h1, rfl⟩ := rd_s hrd
  exact va_iald hx hb hK hP q0 0 (wsOf_get hly) rfl h1 hd (k H locs ls hP hS hl)
theorem R_zald (h : Cx lay ad X cc own nL lev ret M' v') {q0 n : Nat} {i v : Int32} (hrd : rd M q0 n i = some v) (hly : lay[q0]? = some (.inr (.inl (1, n)))) (hd : decode cc pc = .ok (.baload, 1)) (k : Wp lay ad X M (pc + 1) lv (.int v :: st)) : Wp lay ad X M pc lv (.int i :: .ref (ad q0) :: st) := by
  obtain ⟨⟨l, D, cA, t⟩, p, e, s, m, args, below, meth, c, nL', lev', Mf, vf⟩ := X
  obtain ⟨hx, hb, hr, hml, hown, hts, hlk, hK, hI, hZ, rfl, rfl, rfl, rfl⟩ := h
  intro H locs ls hP hS hl
  obtain ⟨h1, rfl⟩ := rd_s hrd
  exact va_zald hx hb hK hP q0 1 (wsOf_get hly) rfl h1 hd (k H locs ls hP hS hl)
theorem R_iast (h : Cx lay ad X cc own nL lev ret M' v') {q0 n : Nat} {i x : Int32} {M1 : Mem} (hw : wr M q0 n i x = some M1) (hly : lay[q0]? = some (.inr (.inl (0, n)))) (hd : decode cc pc = .ok (.iastore, 1)) (k : Wp lay ad X M1 (pc + 1) lv (st)) : Wp lay ad X M pc lv (.int x :: .int i :: .ref (ad q0) :: st) := by
  obtain ⟨⟨l, D, cA, t⟩, p, e, s, m, args, below, meth, c, nL', lev', Mf, vf⟩ := X
  obtain ⟨hx, hb, hr, hml, hown, hts, hlk, hK, hI, hZ, rfl, rfl, rfl, rfl⟩ := h
  intro H locs ls hP hS hl
  obtain ⟨h1, h2⟩ := wr_s hw
  refine va_iast hx hb hK hP (wsOf_D hI) hS q0 0 (wsOf_get hly) rfl h1 hd (fun H1 locs1 hP1 _ hS1 => ?_)
  have e : (wsOf lay ad cA M).set q0 (ad q0, .inl (cA 0, n, .inl (upd (M.1 q0) i.toNatClampNeg x))) = wsOf lay ad cA M1 := by
    subst h2
    refine wsOf_set hly sI_ne ?_
    simp [cellOf, sI]
  have hP2 : va_P D vwCl (wsOf lay ad cA M1) H1 := by rw [← e]; exact hP1
  exact k H1 locs1 ls hP2 hS1 hl
theorem R_zast (h : Cx lay ad X cc own nL lev ret M' v') {q0 n : Nat} {i x : Int32} {M1 : Mem} (hw : wr M q0 n i (zb x) = some M1) (hly : lay[q0]? = some (.inr (.inl (1, n)))) (hd : decode cc pc = .ok (.bastore, 1)) (k : Wp lay ad X M1 (pc + 1) lv (st)) : Wp lay ad X M pc lv (.int x :: .int i :: .ref (ad q0) :: st) := by
  obtain ⟨⟨l, D, cA, t⟩, p, e, s, m, args, below, meth, c, nL', lev', Mf, vf⟩ := X
  obtain ⟨hx, hb, hr, hml, hown, hts, hlk, hK, hI, hZ, rfl, rfl, rfl, rfl⟩ := h
  intro H locs ls hP hS hl
  obtain ⟨h1, h2⟩ := wr_s hw
  refine va_zast hx hb hK hP (wsOf_D hI) hS q0 1 (wsOf_get hly) rfl h1 hd (fun H1 locs1 hP1 _ hS1 => ?_)
  have e : (wsOf lay ad cA M).set q0 (ad q0, .inl (cA 1, n, .inl (upd (M.1 q0) i.toNatClampNeg (zb x)))) = wsOf lay ad cA M1 := by
    subst h2
    refine wsOf_set hly sI_ne ?_
    simp [cellOf, sI]
  have hP2 : va_P D vwCl (wsOf lay ad cA M1) H1 := by rw [← e]; exact hP1
  exact k H1 locs1 ls hP2 hS1 hl
theorem R_alen (h : Cx lay ad X cc own nL lev ret M' v') {q0 tt n : Nat} {v : Int32} (hv : Int32.ofNat n = v) (htt : tt < 4) (hly : lay[q0]? = some (.inr (.inl (tt, n)))) (hd : decode cc pc = .ok (.arraylength, 1)) (k : Wp lay ad X M (pc + 1) lv (.int v :: st)) : Wp lay ad X M pc lv (.ref (ad q0) :: st) := by
  obtain ⟨⟨l, D, cA, t⟩, p, e, s, m, args, below, meth, c, nL', lev', Mf, vf⟩ := X
  obtain ⟨hx, hb, hr, hml, hown, hts, hlk, hK, hI, hZ, rfl, rfl, rfl, rfl⟩ := h
  intro H locs ls hP hS hl
  obtain ⟨ty, hty⟩ : ∃ ty, (tysOf cA)[tt]? = some (cA tt, ty) := by
    rcases (show tt = 0 ∨ tt = 1 ∨ tt = 2 ∨ tt = 3 by omega) with rfl | rfl | rfl | rfl <;> exact ⟨_, rfl⟩
  exact va_alen hx hb hK hP q0 tt (wsOf_get hly) hty hv hd (k H locs ls hP hS hl)
theorem R_alenR (h : Cx lay ad X cc own nL lev ret M' v') {q0 tt : Nat} {qs : List Nat} {v : Int32} (hv : Int32.ofNat qs.length = v) (htt : tt < 4) (hly : lay[q0]? = some (.inr (.inr (tt, qs)))) (hd : decode cc pc = .ok (.arraylength, 1)) (k : Wp lay ad X M (pc + 1) lv (.int v :: st)) : Wp lay ad X M pc lv (.ref (ad q0) :: st) := by
  obtain ⟨⟨l, D, cA, t⟩, p, e, s, m, args, below, meth, c, nL', lev', Mf, vf⟩ := X
  obtain ⟨hx, hb, hr, hml, hown, hts, hlk, hK, hI, hZ, rfl, rfl, rfl, rfl⟩ := h
  intro H locs ls hP hS hl
  obtain ⟨ty, hty⟩ : ∃ ty, (tysOf cA)[tt]? = some (cA tt, ty) := by
    rcases (show tt = 0 ∨ tt = 1 ∨ tt = 2 ∨ tt = 3 by omega) with rfl | rfl | rfl | rfl <;> exact ⟨_, rfl⟩
  exact va_alen hx hb hK hP q0 tt (wsOf_get hly) hty hv hd (k H locs ls hP hS hl)
theorem R_aald (h : Cx lay ad X cc own nL lev ret M' v') {q0 tt q : Nat} {qs : List Nat} {i : Int32} (hrd : rdR qs i = some q) (htt : tt = 2 ∨ tt = 3) (hly : lay[q0]? = some (.inr (.inr (tt, qs)))) (hd : decode cc pc = .ok (.aaload, 1)) (k : Wp lay ad X M (pc + 1) lv (.ref (ad q) :: st)) : Wp lay ad X M pc lv (.int i :: .ref (ad q0) :: st) := by
  obtain ⟨⟨l, D, cA, t⟩, p, e, s, m, args, below, meth, c, nL', lev', Mf, vf⟩ := X
  obtain ⟨hx, hb, hr, hml, hown, hts, hlk, hK, hI, hZ, rfl, rfl, rfl, rfl⟩ := h
  intro H locs ls hP hS hl
  obtain ⟨h1, h2⟩ := rdR_s hrd
  have hv : va_rf ((qs[i.toNatClampNeg]?).map ad) = .ref (ad q) := by rw [h2]; rfl
  have k2 := k H locs ls hP hS hl
  rw [← hv] at k2
  rcases htt with rfl | rfl
  · exact va_aldq (C := RX0) (f := fun i => (qs[i]?).map ad) hx hb hK hP q0 2 (wsOf_get hly) rfl h1 hd k2
  · exact va_aldq (C := RX1) (f := fun i => (qs[i]?).map ad) hx hb hK hP q0 3 (wsOf_get hly) rfl h1 hd k2
def tA (X : XX) : Nat := X.1.2.2.2
theorem R_gets (h : Cx lay ad X cc own nL lev ret M' v') {idx : Nat} (hw : Cond.fieldLink own idx "PinDuties" "LETTERS" "[I" ∈ lw_good) (hd : decode cc pc = .ok (.getstatic idx, 3)) (k : Wp lay ad X M (pc + 3) lv (.ref (tA X) :: st)) : Wp lay ad X M pc lv (st) := by
  obtain ⟨⟨l, D, cA, t⟩, p, e, s, m, args, below, meth, c, nL', lev', Mf, vf⟩ := X
  obtain ⟨hx, hb, hr, hml, hown, hts, hlk, hK, hI, hZ, rfl, rfl, rfl, rfl⟩ := h
  intro H locs ls hP hS hl
  exact va_gets hx hb hZ.1 hS hown (hts _ hw) (fun _ h9 => h9) hd (k H locs ls hP hS hl)
theorem R_tld (h : Cx lay ad X cc own nL lev ret M' v') {i v : Int32} (hrd : rdT i = some v) (hd : decode cc pc = .ok (.iaload, 1)) (k : Wp lay ad X M (pc + 1) lv (.int v :: st)) : Wp lay ad X M pc lv (.int i :: .ref (tA X) :: st) := by
  obtain ⟨⟨l, D, cA, t⟩, p, e, s, m, args, below, meth, c, nL', lev', Mf, vf⟩ := X
  obtain ⟨hx, hb, hr, hml, hown, hts, hlk, hK, hI, hZ, rfl, rfl, rfl, rfl⟩ := h
  intro H locs ls hP hS hl
  have h1 : vp_in i 6 ∧ v = letF i.toNatClampNeg := by
    unfold rdT at hrd
    by_cases c0 : i < 0 ∨ 6 ≤ i.toNatClampNeg
    · rw [if_pos c0] at hrd; cases hrd
    · rw [if_neg c0] at hrd; cases hrd; exact ⟨c0, rfl⟩
  obtain ⟨h1, rfl⟩ := h1
  exact va_ti hx hb hZ.2 hS h1 rfl hd (k H locs ls hP hS hl)
theorem R_mmax (h : Cx lay ad X cc own nL lev ret M' v') {idx : Nat} {x y : Int32} (hw : Cond.methodLink own idx Lib.Math.max.name ∈ lw_good ∧ Cond.static Lib.Math.max.name ∈ lw_good ∧ Cond.initialized "java/lang/Math" ∈ lw_good ∧ Cond.code Lib.Math.max.name Lib.Math.max.code 2 (some .int) ∈ lw_good) (hlv : 1 ≤ lev) (hst : (st.map fun v => v.category).sum + 13 ≤ 50) (hd : decode cc pc = .ok (.invokestatic idx, 3)) (k : Wp lay ad X M (pc + 3) lv (.int (if x < y then y else x) :: st)) : Wp lay ad X M pc lv (.int y :: .int x :: st) := by
  obtain ⟨⟨l, D, cA, t⟩, p, e, s, m, args, below, meth, c, nL', lev', Mf, vf⟩ := X
  obtain ⟨hx, hb, hr, hml, hown, hts, hlk, hK, hI, hZ, rfl, rfl, rfl, rfl⟩ := h
  intro H locs ls hP hS hl
  have hrl : (st.map fun v => v.category).sum + 13 ≤ (rmL lev').locals := Nat.le_trans hst (by show 50 ≤ 50 * lev'; omega)
  exact va_mmax hx hb (by rw [hml]; exact hl.1.symm) hown (hts _ hw.1) (hts _ hw.2.1) (hts _ hw.2.2.1) (hts _ hw.2.2.2) hlv hrl (Nat.le_refl _) (Nat.le_refl _) hd (k H locs ls hP hS hl)
theorem R_mmin (h : Cx lay ad X cc own nL lev ret M' v') {idx : Nat} {x y : Int32} (hw : Cond.methodLink own idx Lib.Math.min.name ∈ lw_good ∧ Cond.static Lib.Math.min.name ∈ lw_good ∧ Cond.initialized "java/lang/Math" ∈ lw_good ∧ Cond.code Lib.Math.min.name Lib.Math.min.code 2 (some .int) ∈ lw_good) (hlv : 1 ≤ lev) (hst : (st.map fun v => v.category).sum + 13 ≤ 50) (hd : decode cc pc = .ok (.invokestatic idx, 3)) (k : Wp lay ad X M (pc + 3) lv (.int (if y < x then y else x) :: st)) : Wp lay ad X M pc lv (.int y :: .int x :: st) := by
  obtain ⟨⟨l, D, cA, t⟩, p, e, s, m, args, below, meth, c, nL', lev', Mf, vf⟩ := X
  obtain ⟨hx, hb, hr, hml, hown, hts, hlk, hK, hI, hZ, rfl, rfl, rfl, rfl⟩ := h
  intro H locs ls hP hS hl
  have hrl : (st.map fun v => v.category).sum + 13 ≤ (rmL lev').locals := Nat.le_trans hst (by show 50 ≤ 50 * lev'; omega)
  exact va_mmin hx hb (by rw [hml]; exact hl.1.symm) hown (hts _ hw.1) (hts _ hw.2.1) (hts _ hw.2.2.1) (hts _ hw.2.2.2) hlv hrl (Nat.le_refl _) (Nat.le_refl _) hd (k H locs ls hP hS hl)
theorem R_mabs (h : Cx lay ad X cc own nL lev ret M' v') {idx : Nat} {x y : Int32} (hw : Cond.methodLink own idx Lib.Math.abs.name ∈ lw_good ∧ Cond.static Lib.Math.abs.name ∈ lw_good ∧ Cond.initialized "java/lang/Math" ∈ lw_good ∧ Cond.code Lib.Math.abs.name Lib.Math.abs.code 1 (some .int) ∈ lw_good) (hlv : 1 ≤ lev) (hst : (st.map fun v => v.category).sum + 13 ≤ 50) (hd : decode cc pc = .ok (.invokestatic idx, 3)) (k : Wp lay ad X M (pc + 3) lv (.int (if 0 ≤ x then x else 0 - x) :: st)) : Wp lay ad X M pc lv (.int x :: st) := by
  obtain ⟨⟨l, D, cA, t⟩, p, e, s, m, args, below, meth, c, nL', lev', Mf, vf⟩ := X
  obtain ⟨hx, hb, hr, hml, hown, hts, hlk, hK, hI, hZ, rfl, rfl, rfl, rfl⟩ := h
  intro H locs ls hP hS hl
  have hrl : (st.map fun v => v.category).sum + 13 ≤ (rmL lev').locals := Nat.le_trans hst (by show 50 ≤ 50 * lev'; omega)
  exact va_mabs hx hb (by rw [hml]; exact hl.1.symm) hown (hts _ hw.1) (hts _ hw.2.1) (hts _ hw.2.2.1) (hts _ hw.2.2.2) hlv hrl (Nat.le_refl _) (Nat.le_refl _) hd (k H locs ls hP hS hl)
theorem R_copyi (h : Cx lay ad X cc own nL lev ret M' v') {idx p0 n0 p1 n1 : Nat} {sp dp n : Int32} {M1 : Mem} (hw : Cond.methodLink own idx arraycopyName ∈ lw_good ∧ Cond.native arraycopyName ∈ lw_good ∧ Cond.static arraycopyName ∈ lw_good ∧ Cond.initialized "java/lang/System" ∈ lw_good) (hc : cpy M p0 n0 sp p1 n1 dp n = some M1) (hl0 : lay[p0]? = some (.inr (.inl (0, n0)))) (hl1 : lay[p1]? = some (.inr (.inl (0, n1)))) (hlv : 2 ≤ lev) (hst : st = []) (hd : decode cc pc = .ok (.invokestatic idx, 3)) (k : Wp lay ad X M1 (pc + 3) lv (st)) : Wp lay ad X M pc lv (.int n :: .int dp :: .ref (ad p1) :: .int sp :: .ref (ad p0) :: st) := by
  obtain ⟨⟨l, D, cA, t⟩, p, e, s, m, args, below, meth, c, nL', lev', Mf, vf⟩ := X
  obtain ⟨hx, hb, hr, hml, hown, hts, hlk, hK, hI, hZ, rfl, rfl, rfl, rfl⟩ := h
  intro H locs ls hP hS hl
  subst hst
  unfold cpy at hc
  by_cases c0 : sp < 0 ∨ dp < 0 ∨ n < 0 ∨ n0 < sp.toNatClampNeg + n.toNatClampNeg ∨ n1 < dp.toNatClampNeg + n.toNatClampNeg
  · rw [if_pos c0] at hc; cases hc
  · rw [if_neg c0] at hc
    have c1 : ¬ sp < 0 := fun q => c0 (Or.inl q)
    have c2 : ¬ dp < 0 := fun q => c0 (Or.inr (Or.inl q))
    have c3 : ¬ n < 0 := fun q => c0 (Or.inr (Or.inr (Or.inl q)))
    have c4 : sp.toNatClampNeg + n.toNatClampNeg ≤ n0 := Nat.not_lt.mp fun q => c0 (Or.inr (Or.inr (Or.inr (Or.inl q))))
    have c5 : dp.toNatClampNeg + n.toNatClampNeg ≤ n1 := Nat.not_lt.mp fun q => c0 (Or.inr (Or.inr (Or.inr (Or.inr q))))
    refine va_copyi hx hb (by rw [hml]; exact hl.1.symm) hown (hts _ hw.1) (hts _ hw.2.1) (hts _ hw.2.2.1) (hts _ hw.2.2.2) hK hP (wsOf_D hI) hS p0 p1 0 0 (wsOf_get hl0) (wsOf_get hl1) (ty := .int) rfl rfl rfl c1 c2 c3 c4 c5 (fun _ _ => rfl) (by show 1 ≤ lev'; omega) (copy_room hlv) hd (fun H1 locs1 hP1 _ hS1 => ?_)
    have e : (wsOf lay ad cA M).set p1 (ad p1, .inl (cA 0, n1, .inl (va_cpy (M.1 p0) (M.1 p1) sp.toNatClampNeg dp.toNatClampNeg n.toNatClampNeg))) = wsOf lay ad cA M1 := by
      cases hc
      refine wsOf_set hl1 sF_ne ?_
      simp [cellOf, sF]
    have hP2 : va_P D vwCl (wsOf lay ad cA M1) H1 := by rw [← e]; exact hP1
    exact k H1 locs1 ls hP2 hS1 hl
theorem wp_call {p : Program} {l : Launch} {e : Env} {R : Room} {s : State} {m : MethodId} {args : Array Value} {below : List Frame} {meth : Method} {c : Code} {H : Heap} {locs : List Loc} {Q : State → Prop} {ls : Array Slot} {rest st0 : List Value} {a : Array Value} {z : ZZ} {M1 : Mem} {v : Option Value}
    (hr : va_Run p l e R s m args below meth c H locs 0 0 0 0 (F0 m pc ls st0) rest (QQ lay ad z M1 v a) (AA lay ad)) (hS : va_S (AA lay ad) s.heap H locs)
    (kk : ∀ (H1 : Heap) (locs1 : List Loc), va_P z.2.1 vwCl (wsOf lay ad z.2.2.1 M1) H1 → va_S (AA lay ad) s.heap H1 locs1 → W p l e R s m args below meth c H1 locs1 0 0 Q (F0 m (pc + 3) ls (v.toList ++ rest))) : W p l e R s m args below meth c H locs 0 0 Q (F0 m pc ls st0) := by
  intro T hT X
  obtain ⟨v1, st₀, t, T', L, h0, X', hL, e1, e2, ⟨hv, hp, hz, hk⟩, st⟩ := hr T hT X
  cases hv
  rw [h0] at hz hk
  obtain ⟨t2, a1, b1⟩ := kk T'.heap (locs ++ L) (by rw [e1]; exact hp)
    ⟨Nat.le_trans hS.1 (by rw [e1]; exact hz), fun q h1 h2 => by rw [e1, hk q (Nat.lt_of_lt_of_le h1 hS.1) h2]; exact hS.2.1 q h1 h2, fun q hq => by
      rcases List.mem_append.mp hq with h | h
      · exact hS.2.2 q h
      · exact hL q h⟩ T' rfl X'
  exact ⟨t2, st t2 a1, b1⟩
theorem R_callV (h : Cx lay ad X cc own nL lev ret M' v') {idx n lev2 : Nat} {y : MethodName} {bytes : ByteArray} {maxL : Nat} {rt : Option FieldType} {M1 : Mem} {v : Option Value} {st0 : List Value} (As : List Value) {ci q0 : Nat} {fs : List Nat} (hw : CV own idx y bytes maxL rt n ci) (hc : Con lay ad X.1 y bytes maxL rt lev2 M (.ref (ad q0) :: As) M1 v) (hs0 : st0 = As.reverse ++ .ref (ad q0) :: st) (hn : As.length = n) (hly : lay[q0]? = some (.inl (ci, fs))) (hlv : lev2 + 1 ≤ lev) (hmx : maxL ≤ 30) (hst : (st.map fun v => v.category).sum ≤ 8) (hd : decode cc pc = .ok (.invokevirtual idx, 3)) (k : Wp lay ad X M1 (pc + 3) lv (v.toList ++ st)) : Wp lay ad X M pc lv (st0) := by
  obtain ⟨⟨l, D, cA, t⟩, p, e, s, m, args, below, meth, c, nL', lev', Mf, vf⟩ := X
  obtain ⟨hx, hb, hr, hml, hown, hts, hlk, hK, hI, hZ, rfl, rfl, rfl, rfl⟩ := h
  intro H locs ls hP hS hl
  subst hs0
  obtain ⟨w1, w2, w3, w4, w5, w6, T, N, hvc⟩ := hw
  exact wp_call (va_runV (C := y.cls) (As := As) (rest := st) ⟨hx, hb, hml, hown, hts⟩ hc ⟨callB_of n hts (good_wsC w5) rfl rfl rfl (hts _ w4) (hts _ w1) w6 ⟨by show lev2 + 1 ≤ lev'; omega, by show 8 + (maxL + 11) + 50 * lev2 ≤ 50 * lev'; omega⟩, hts _ w2, hts _ w3⟩ ⟨PP_blind, va_recv hK hP (ci := ci) (q0 := q0) hvc (wsOf_get hly), fun U hU hW => ⟨rfl, by rw [hU]; exact hP, va_K.moved hW.alike hK, hI, by rw [hU]; exact SI.moved hW.alike (hZ.kept hS.2.1)⟩⟩ rfl hn hl.1 rfl (lv_room hst) hd ⟨Nat.le_refl _, Nat.le_refl _⟩) hS (fun H1 locs1 hP1 hS1 => k H1 locs1 ls hP1 hS1 hl)
theorem R_callS (h : Cx lay ad X cc own nL lev ret M' v') {idx n lev2 : Nat} {y : MethodName} {bytes : ByteArray} {maxL : Nat} {rt : Option FieldType} {M1 : Mem} {v : Option Value} {st0 : List Value} (As : List Value) (hw : CS own idx y bytes maxL rt n) (hc : Con lay ad X.1 y bytes maxL rt lev2 M As M1 v) (hs0 : st0 = As.reverse ++ st) (hn : As.length = n) (hlv : lev2 + 1 ≤ lev) (hmx : maxL ≤ 30) (hst : (st.map fun v => v.category).sum ≤ 8) (hd : decode cc pc = .ok (.invokestatic idx, 3)) (k : Wp lay ad X M1 (pc + 3) lv (v.toList ++ st)) : Wp lay ad X M pc lv (st0) := by
  obtain ⟨⟨l, D, cA, t⟩, p, e, s, m, args, below, meth, c, nL', lev', Mf, vf⟩ := X
  obtain ⟨hx, hb, hr, hml, hown, hts, hlk, hK, hI, hZ, rfl, rfl, rfl, rfl⟩ := h
  intro H locs ls hP hS hl
  subst hs0
  obtain ⟨w1, w2, w4, w5, w6⟩ := hw
  exact wp_call (va_runS (As := As) (rest := st) ⟨hx, hb, hml, hown, hts⟩ hc ⟨callB_of n hts (good_wsC w5) rfl rfl rfl (hts _ w4) (hts _ w1) w6 ⟨by show lev2 + 1 ≤ lev'; omega, by show 8 + (maxL + 11) + 50 * lev2 ≤ 50 * lev'; omega⟩, hts _ w2⟩ ⟨PP_blind, fun U hU hW => ⟨rfl, by rw [hU]; exact hP, va_K.moved hW.alike hK, hI, by rw [hU]; exact SI.moved hW.alike (hZ.kept hS.2.1)⟩⟩ rfl hn hl.1 rfl (lv_room hst) hd ⟨Nat.le_refl _, Nat.le_refl _⟩) hS (fun H1 locs1 hP1 hS1 => k H1 locs1 ls hP1 hS1 hl)
theorem R_callN (h : Cx lay ad X cc own nL lev ret M' v') {idx n lev2 : Nat} {y : MethodName} {bytes : ByteArray} {maxL : Nat} {rt : Option FieldType} {M1 : Mem} {v : Option Value} {st0 : List Value} (As : List Value) {host : String} (hw : CN own idx y host bytes maxL rt n) (hc : Con lay ad X.1 y bytes maxL rt lev2 M As M1 v) (hs0 : st0 = As.reverse ++ st) (hn : As.length = n) (hlv : lev2 + 1 ≤ lev) (hmx : maxL ≤ 30) (hst : (st.map fun v => v.category).sum ≤ 8) (hd : decode cc pc = .ok (.invokestatic idx, 3)) (k : Wp lay ad X M1 (pc + 3) lv (v.toList ++ st)) : Wp lay ad X M pc lv (st0) := by
  obtain ⟨⟨l, D, cA, t⟩, p, e, s, m, args, below, meth, c, nL', lev', Mf, vf⟩ := X
  obtain ⟨hx, hb, hr, hml, hown, hts, hlk, hK, hI, hZ, rfl, rfl, rfl, rfl⟩ := h
  intro H locs ls hP hS hl
  subst hs0
  obtain ⟨w1, w2, w4, w5, w6⟩ := hw
  exact wp_call (va_runSN (As := As) (rest := st) ⟨hx, hb, hml, hown, hts⟩ hc ⟨va_cnB n hts (good_wsC w5) rfl rfl rfl (va_Nw.use rfl (hts _ w1)) (hts _ w4) w6 ⟨by show lev2 + 1 ≤ lev'; omega, by show 8 + (maxL + 11) + 50 * lev2 ≤ 50 * lev'; omega⟩, hts _ w2, trivial⟩ ⟨PP_blind, fun U hU hW => ⟨rfl, by rw [hU]; exact hP, va_K.moved hW.alike hK, hI, by rw [hU]; exact SI.moved hW.alike (hZ.kept hS.2.1)⟩⟩ rfl hn hl.1 rfl (lv_room hst) hd ⟨Nat.le_refl _, Nat.le_refl _⟩) hS (fun H1 locs1 hP1 hS1 => k H1 locs1 ls hP1 hS1 hl)
theorem R_ireturn (h : Cx lay ad X cc own nL lev ret M' v') {v : Int32} (hre : ret = some .int) (hM : M = M') (hv : some (Value.int v) = v') (hd : decode cc pc = .ok (.ireturn, 1)) : Wp lay ad X M pc lv (.int v :: []) := by
  obtain ⟨⟨l, D, cA, t⟩, p, e, s, m, args, below, meth, c, nL', lev', Mf, vf⟩ := X
  obtain ⟨hx, hb, hr, hml, hown, hts, hlk, hK, hI, hZ, rfl, rfl, rfl, rfl⟩ := h
  intro H locs ls hP hS hl
  subst hM; subst hv
  exact W.iret hx hb (by rw [hr]; exact hre) (fun t ht hW => ⟨rfl, by rw [ht]; exact hP, hS.F ht⟩) hS.2.2 hd
theorem R_zreturn (h : Cx lay ad X cc own nL lev ret M' v') {v w : Int32} (hre : ret = some .boolean) (hz : zr v = some w) (hM : M = M') (hv : some (Value.int w) = v') (hd : decode cc pc = .ok (.ireturn, 1)) : Wp lay ad X M pc lv (.int v :: []) := by
  obtain ⟨⟨l, D, cA, t⟩, p, e, s, m, args, below, meth, c, nL', lev', Mf, vf⟩ := X
  obtain ⟨hx, hb, hr, hml, hown, hts, hlk, hK, hI, hZ, rfl, rfl, rfl, rfl⟩ := h
  intro H locs ls hP hS hl
  have hw : v = w ∧ narrow .boolean (.int v) = .int v := by
    unfold zr at hz
    by_cases c0 : v = 0 ∨ v = 1
    · rw [if_pos c0] at hz
      cases hz
      exact ⟨rfl, by rcases c0 with rfl | rfl <;> rfl⟩
    · rw [if_neg c0] at hz; cases hz
  obtain ⟨rfl, hnn⟩ := hw
  subst hM; subst hv
  exact W.zret hx hb (by rw [hr]; exact hre) hnn (fun t ht hW => ⟨rfl, by rw [ht]; exact hP, hS.F ht⟩) hS.2.2 hd
theorem R_lreturn (h : Cx lay ad X cc own nL lev ret M' v') {v : Int64} (hre : ret = some .long) (hM : M = M') (hv : some (Value.long v) = v') (hd : decode cc pc = .ok (.lreturn, 1)) : Wp lay ad X M pc lv (.long v :: []) := by
  obtain ⟨⟨l, D, cA, t⟩, p, e, s, m, args, below, meth, c, nL', lev', Mf, vf⟩ := X
  obtain ⟨hx, hb, hr, hml, hown, hts, hlk, hK, hI, hZ, rfl, rfl, rfl, rfl⟩ := h
  intro H locs ls hP hS hl
  subst hM; subst hv
  exact W.lret hx hb (by rw [hr]; exact hre) (fun t ht hW => ⟨rfl, by rw [ht]; exact hP, hS.F ht⟩) hS.2.2 hd
theorem R_return (h : Cx lay ad X cc own nL lev ret M' v') (hre : ret = none) (hM : M = M') (hv : none = v') (hd : decode cc pc = .ok (.return_, 1)) : Wp lay ad X M pc lv ([]) := by
  obtain ⟨⟨l, D, cA, t⟩, p, e, s, m, args, below, meth, c, nL', lev', Mf, vf⟩ := X
  obtain ⟨hx, hb, hr, hml, hown, hts, hlk, hK, hI, hZ, rfl, rfl, rfl, rfl⟩ := h
  intro H locs ls hP hS hl
  subst hM; subst hv
  exact W.vret hx hb (by rw [hr]; exact hre) (fun t ht hW => ⟨rfl, by rw [ht]; exact hP, hS.F ht⟩) hS.2.2 hd
theorem R_areturn (h : Cx lay ad X cc own nL lev ret M' v') {v : Value} {C : String} (hre : ret = some (.object C)) (hva : v = .null ∨ ∃ a, v = .ref a) (hM : M = M') (hv : some v = v') (hd : decode cc pc = .ok (.areturn, 1)) : Wp lay ad X M pc lv (v :: []) := by
  obtain ⟨⟨l, D, cA, t⟩, p, e, s, m, args, below, meth, c, nL', lev', Mf, vf⟩ := X
  obtain ⟨hx, hb, hr, hml, hown, hts, hlk, hK, hI, hZ, rfl, rfl, rfl, rfl⟩ := h
  intro H locs ls hP hS hl
  subst hM; subst hv
  exact W.aret hx hb (by rw [hr]; exact hre) (Or.inl ⟨C, rfl⟩) hva (fun t ht hW => ⟨rfl, by rw [ht]; exact hP, hS.F ht⟩) hS.2.2 hd
end RULES
end
