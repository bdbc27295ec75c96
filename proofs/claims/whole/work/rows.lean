section
-- ===== PART A: goes FIRST, ahead of the names: the tables' words, and 'selects' of the private methods out of them =====
/-- a private method of a class that the tables say can be made, by its rows of tables_1 -/
def lw_okq (q : MethodName × Nat) : Prop := (q.1.cls ≠ "java/lang/invoke/MethodHandle" ∧ q.1.cls ≠ "java/lang/invoke/VarHandle") ∧ Cond.instantiable q.1.cls q.2 ∈ tables_1 ∧ Cond.privateMethod q.1 ∈ tables_1 ∧ Cond.instanceMethod q.1 ∈ tables_1
theorem lw_p0 : lw_okq (⟨"PinDuties", "rowAt", "(I)LPinDuties$Cells;"⟩, 9) := ⟨⟨by decide +kernel, by decide +kernel⟩, List.mem_of_getElem? (i := 11) (by decide +kernel), List.mem_of_getElem? (i := 174) (by decide +kernel), List.mem_of_getElem? (i := 175) (by decide +kernel)⟩
theorem lw_p1 : lw_okq (⟨"PinDuties", "makeCells", "(LPinDuties$Cells;III)I"⟩, 9) := ⟨⟨by decide +kernel, by decide +kernel⟩, List.mem_of_getElem? (i := 11) (by decide +kernel), List.mem_of_getElem? (i := 178) (by decide +kernel), List.mem_of_getElem? (i := 179) (by decide +kernel)⟩
theorem lw_p2 : lw_okq (⟨"PinDuties", "find", "(I)I"⟩, 9) := ⟨⟨by decide +kernel, by decide +kernel⟩, List.mem_of_getElem? (i := 11) (by decide +kernel), List.mem_of_getElem? (i := 182) (by decide +kernel), List.mem_of_getElem? (i := 183) (by decide +kernel)⟩
theorem lw_p3 : lw_okq (⟨"PinDuties", "refusePlace", "(LPinDuties$Cells;I)I"⟩, 9) := ⟨⟨by decide +kernel, by decide +kernel⟩, List.mem_of_getElem? (i := 11) (by decide +kernel), List.mem_of_getElem? (i := 197) (by decide +kernel), List.mem_of_getElem? (i := 198) (by decide +kernel)⟩
theorem lw_p4 : lw_okq (⟨"PinDuties", "refuseMissing", "(LPinDuties$Cells;)I"⟩, 9) := ⟨⟨by decide +kernel, by decide +kernel⟩, List.mem_of_getElem? (i := 11) (by decide +kernel), List.mem_of_getElem? (i := 201) (by decide +kernel), List.mem_of_getElem? (i := 202) (by decide +kernel)⟩
theorem lw_p5 : lw_okq (⟨"PinDuties", "textAt", "(I)LPinDuties$Cells;"⟩, 9) := ⟨⟨by decide +kernel, by decide +kernel⟩, List.mem_of_getElem? (i := 11) (by decide +kernel), List.mem_of_getElem? (i := 248) (by decide +kernel), List.mem_of_getElem? (i := 249) (by decide +kernel)⟩
theorem lw_p6 : lw_okq (⟨"PinDuties$Pins", "takeSign", "(II)V"⟩, 12) := ⟨⟨by decide +kernel, by decide +kernel⟩, List.mem_of_getElem? (i := 29) (by decide +kernel), List.mem_of_getElem? (i := 280) (by decide +kernel), List.mem_of_getElem? (i := 281) (by decide +kernel)⟩
theorem lw_p7 : lw_okq (⟨"PinDuties$Pins", "reckonSetsTo", "(I)V"⟩, 12) := ⟨⟨by decide +kernel, by decide +kernel⟩, List.mem_of_getElem? (i := 29) (by decide +kernel), List.mem_of_getElem? (i := 293) (by decide +kernel), List.mem_of_getElem? (i := 294) (by decide +kernel)⟩
theorem lw_p8 : lw_okq (⟨"PinDuties$Street", "change", "(I)V"⟩, 6) := ⟨⟨by decide +kernel, by decide +kernel⟩, List.mem_of_getElem? (i := 23) (by decide +kernel), List.mem_of_getElem? (i := 308) (by decide +kernel), List.mem_of_getElem? (i := 309) (by decide +kernel)⟩
theorem lw_p9 : lw_okq (⟨"PinDuties", "keptAt", "(I)LPinDuties$Deeds;"⟩, 9) := ⟨⟨by decide +kernel, by decide +kernel⟩, List.mem_of_getElem? (i := 11) (by decide +kernel), List.mem_of_getElem? (i := 388) (by decide +kernel), List.mem_of_getElem? (i := 389) (by decide +kernel)⟩
theorem lw_p10 : lw_okq (⟨"PinDuties", "countWhose", "(II)I"⟩, 9) := ⟨⟨by decide +kernel, by decide +kernel⟩, List.mem_of_getElem? (i := 11) (by decide +kernel), List.mem_of_getElem? (i := 494) (by decide +kernel), List.mem_of_getElem? (i := 495) (by decide +kernel)⟩
theorem lw_p11 : lw_okq (⟨"PinDuties", "refusePairs", "(II)I"⟩, 9) := ⟨⟨by decide +kernel, by decide +kernel⟩, List.mem_of_getElem? (i := 11) (by decide +kernel), List.mem_of_getElem? (i := 502) (by decide +kernel), List.mem_of_getElem? (i := 503) (by decide +kernel)⟩
theorem lw_p12 : lw_okq (⟨"PinDuties", "kindsBy", "(ILPinDuties$Cells;)I"⟩, 9) := ⟨⟨by decide +kernel, by decide +kernel⟩, List.mem_of_getElem? (i := 11) (by decide +kernel), List.mem_of_getElem? (i := 509) (by decide +kernel), List.mem_of_getElem? (i := 510) (by decide +kernel)⟩
theorem lw_p13 : lw_okq (⟨"PinDuties", "tellFraction", "(JJ)V"⟩, 9) := ⟨⟨by decide +kernel, by decide +kernel⟩, List.mem_of_getElem? (i := 11) (by decide +kernel), List.mem_of_getElem? (i := 544) (by decide +kernel), List.mem_of_getElem? (i := 545) (by decide +kernel)⟩
theorem lw_p14 : lw_okq (⟨"PinDuties", "countOf", "(I)I"⟩, 9) := ⟨⟨by decide +kernel, by decide +kernel⟩, List.mem_of_getElem? (i := 11) (by decide +kernel), List.mem_of_getElem? (i := 581) (by decide +kernel), List.mem_of_getElem? (i := 582) (by decide +kernel)⟩
theorem lw_p15 : lw_okq (⟨"PinDuties", "countKept", "()I"⟩, 9) := ⟨⟨by decide +kernel, by decide +kernel⟩, List.mem_of_getElem? (i := 11) (by decide +kernel), List.mem_of_getElem? (i := 588) (by decide +kernel), List.mem_of_getElem? (i := 589) (by decide +kernel)⟩
def lw_privs_1 : List (MethodName × Nat) := [(⟨"PinDuties", "rowAt", "(I)LPinDuties$Cells;"⟩, 9), (⟨"PinDuties", "makeCells", "(LPinDuties$Cells;III)I"⟩, 9), (⟨"PinDuties", "find", "(I)I"⟩, 9), (⟨"PinDuties", "refusePlace", "(LPinDuties$Cells;I)I"⟩, 9), (⟨"PinDuties", "refuseMissing", "(LPinDuties$Cells;)I"⟩, 9), (⟨"PinDuties", "textAt", "(I)LPinDuties$Cells;"⟩, 9), (⟨"PinDuties$Pins", "takeSign", "(II)V"⟩, 12), (⟨"PinDuties$Pins", "reckonSetsTo", "(I)V"⟩, 12), (⟨"PinDuties$Street", "change", "(I)V"⟩, 6), (⟨"PinDuties", "keptAt", "(I)LPinDuties$Deeds;"⟩, 9), (⟨"PinDuties", "countWhose", "(II)I"⟩, 9), (⟨"PinDuties", "refusePairs", "(II)I"⟩, 9), (⟨"PinDuties", "kindsBy", "(ILPinDuties$Cells;)I"⟩, 9), (⟨"PinDuties", "tellFraction", "(JJ)V"⟩, 9), (⟨"PinDuties", "countOf", "(I)I"⟩, 9), (⟨"PinDuties", "countKept", "()I"⟩, 9)]
theorem lw_r1 : ∀ q ∈ lw_privs_1, lw_okq q := List.forall_mem_cons.mpr ⟨lw_p0, List.forall_mem_cons.mpr ⟨lw_p1, List.forall_mem_cons.mpr ⟨lw_p2, List.forall_mem_cons.mpr ⟨lw_p3, List.forall_mem_cons.mpr ⟨lw_p4, List.forall_mem_cons.mpr ⟨lw_p5, List.forall_mem_cons.mpr ⟨lw_p6, List.forall_mem_cons.mpr ⟨lw_p7, List.forall_mem_cons.mpr ⟨lw_p8, List.forall_mem_cons.mpr ⟨lw_p9, List.forall_mem_cons.mpr ⟨lw_p10, List.forall_mem_cons.mpr ⟨lw_p11, List.forall_mem_cons.mpr ⟨lw_p12, List.forall_mem_cons.mpr ⟨lw_p13, List.forall_mem_cons.mpr ⟨lw_p14, List.forall_mem_cons.mpr ⟨lw_p15, fun _ h => absurd h List.not_mem_nil⟩⟩⟩⟩⟩⟩⟩⟩⟩⟩⟩⟩⟩⟩⟩⟩
theorem lw_p16 : lw_okq (⟨"PinDutiesModel", "forgets", "()V"⟩, 27) := ⟨⟨by decide +kernel, by decide +kernel⟩, List.mem_of_getElem? (i := 616) (by decide +kernel), List.mem_of_getElem? (i := 622) (by decide +kernel), List.mem_of_getElem? (i := 623) (by decide +kernel)⟩
theorem lw_p17 : lw_okq (⟨"PinDutiesModel", "found", "(I)I"⟩, 27) := ⟨⟨by decide +kernel, by decide +kernel⟩, List.mem_of_getElem? (i := 616) (by decide +kernel), List.mem_of_getElem? (i := 719) (by decide +kernel), List.mem_of_getElem? (i := 720) (by decide +kernel)⟩
theorem lw_p18 : lw_okq (⟨"PinDutiesModel", "tell", "(I)I"⟩, 27) := ⟨⟨by decide +kernel, by decide +kernel⟩, List.mem_of_getElem? (i := 616) (by decide +kernel), List.mem_of_getElem? (i := 727) (by decide +kernel), List.mem_of_getElem? (i := 728) (by decide +kernel)⟩
theorem lw_p19 : lw_okq (⟨"PinDutiesModel", "reads", "(I)I"⟩, 27) := ⟨⟨by decide +kernel, by decide +kernel⟩, List.mem_of_getElem? (i := 616) (by decide +kernel), List.mem_of_getElem? (i := 763) (by decide +kernel), List.mem_of_getElem? (i := 764) (by decide +kernel)⟩
theorem lw_p20 : lw_okq (⟨"PinDutiesModel", "skips", "()V"⟩, 27) := ⟨⟨by decide +kernel, by decide +kernel⟩, List.mem_of_getElem? (i := 616) (by decide +kernel), List.mem_of_getElem? (i := 767) (by decide +kernel), List.mem_of_getElem? (i := 768) (by decide +kernel)⟩
theorem lw_p21 : lw_okq (⟨"PinDutiesModel", "here", "()I"⟩, 27) := ⟨⟨by decide +kernel, by decide +kernel⟩, List.mem_of_getElem? (i := 616) (by decide +kernel), List.mem_of_getElem? (i := 771) (by decide +kernel), List.mem_of_getElem? (i := 772) (by decide +kernel)⟩
theorem lw_p22 : lw_okq (⟨"PinDutiesModel", "readsPin", "()Z"⟩, 27) := ⟨⟨by decide +kernel, by decide +kernel⟩, List.mem_of_getElem? (i := 616) (by decide +kernel), List.mem_of_getElem? (i := 775) (by decide +kernel), List.mem_of_getElem? (i := 776) (by decide +kernel)⟩
theorem lw_p23 : lw_okq (⟨"PinDutiesModel", "isFigure", "(II)Z"⟩, 27) := ⟨⟨by decide +kernel, by decide +kernel⟩, List.mem_of_getElem? (i := 616) (by decide +kernel), List.mem_of_getElem? (i := 782) (by decide +kernel), List.mem_of_getElem? (i := 783) (by decide +kernel)⟩
theorem lw_p24 : lw_okq (⟨"PinDutiesModel", "isPin", "(I)Z"⟩, 27) := ⟨⟨by decide +kernel, by decide +kernel⟩, List.mem_of_getElem? (i := 616) (by decide +kernel), List.mem_of_getElem? (i := 794) (by decide +kernel), List.mem_of_getElem? (i := 795) (by decide +kernel)⟩
theorem lw_p25 : lw_okq (⟨"PinDutiesModel", "lies", "(I)Z"⟩, 27) := ⟨⟨by decide +kernel, by decide +kernel⟩, List.mem_of_getElem? (i := 616) (by decide +kernel), List.mem_of_getElem? (i := 799) (by decide +kernel), List.mem_of_getElem? (i := 800) (by decide +kernel)⟩
theorem lw_p26 : lw_okq (⟨"PinDutiesModel", "hoursOf", "(I)I"⟩, 27) := ⟨⟨by decide +kernel, by decide +kernel⟩, List.mem_of_getElem? (i := 616) (by decide +kernel), List.mem_of_getElem? (i := 803) (by decide +kernel), List.mem_of_getElem? (i := 804) (by decide +kernel)⟩
theorem lw_p27 : lw_okq (⟨"PinDutiesModel", "worthOf", "(I)I"⟩, 27) := ⟨⟨by decide +kernel, by decide +kernel⟩, List.mem_of_getElem? (i := 616) (by decide +kernel), List.mem_of_getElem? (i := 807) (by decide +kernel), List.mem_of_getElem? (i := 808) (by decide +kernel)⟩
theorem lw_p28 : lw_okq (⟨"PinDutiesModel", "worthBy", "(III)I"⟩, 27) := ⟨⟨by decide +kernel, by decide +kernel⟩, List.mem_of_getElem? (i := 616) (by decide +kernel), List.mem_of_getElem? (i := 811) (by decide +kernel), List.mem_of_getElem? (i := 812) (by decide +kernel)⟩
theorem lw_p29 : lw_okq (⟨"PinDutiesModel", "remember", "()V"⟩, 27) := ⟨⟨by decide +kernel, by decide +kernel⟩, List.mem_of_getElem? (i := 616) (by decide +kernel), List.mem_of_getElem? (i := 834) (by decide +kernel), List.mem_of_getElem? (i := 835) (by decide +kernel)⟩
theorem lw_p30 : lw_okq (⟨"PinDutiesModel", "those", "(I)I"⟩, 27) := ⟨⟨by decide +kernel, by decide +kernel⟩, List.mem_of_getElem? (i := 616) (by decide +kernel), List.mem_of_getElem? (i := 845) (by decide +kernel), List.mem_of_getElem? (i := 846) (by decide +kernel)⟩
theorem lw_p31 : lw_okq (⟨"PinDutiesModel", "refuses", "(I)I"⟩, 27) := ⟨⟨by decide +kernel, by decide +kernel⟩, List.mem_of_getElem? (i := 616) (by decide +kernel), List.mem_of_getElem? (i := 860) (by decide +kernel), List.mem_of_getElem? (i := 861) (by decide +kernel)⟩
def lw_privs_2 : List (MethodName × Nat) := [(⟨"PinDutiesModel", "forgets", "()V"⟩, 27), (⟨"PinDutiesModel", "found", "(I)I"⟩, 27), (⟨"PinDutiesModel", "tell", "(I)I"⟩, 27), (⟨"PinDutiesModel", "reads", "(I)I"⟩, 27), (⟨"PinDutiesModel", "skips", "()V"⟩, 27), (⟨"PinDutiesModel", "here", "()I"⟩, 27), (⟨"PinDutiesModel", "readsPin", "()Z"⟩, 27), (⟨"PinDutiesModel", "isFigure", "(II)Z"⟩, 27), (⟨"PinDutiesModel", "isPin", "(I)Z"⟩, 27), (⟨"PinDutiesModel", "lies", "(I)Z"⟩, 27), (⟨"PinDutiesModel", "hoursOf", "(I)I"⟩, 27), (⟨"PinDutiesModel", "worthOf", "(I)I"⟩, 27), (⟨"PinDutiesModel", "worthBy", "(III)I"⟩, 27), (⟨"PinDutiesModel", "remember", "()V"⟩, 27), (⟨"PinDutiesModel", "those", "(I)I"⟩, 27), (⟨"PinDutiesModel", "refuses", "(I)I"⟩, 27)]
theorem lw_r2 : ∀ q ∈ lw_privs_2, lw_okq q := List.forall_mem_cons.mpr ⟨lw_p16, List.forall_mem_cons.mpr ⟨lw_p17, List.forall_mem_cons.mpr ⟨lw_p18, List.forall_mem_cons.mpr ⟨lw_p19, List.forall_mem_cons.mpr ⟨lw_p20, List.forall_mem_cons.mpr ⟨lw_p21, List.forall_mem_cons.mpr ⟨lw_p22, List.forall_mem_cons.mpr ⟨lw_p23, List.forall_mem_cons.mpr ⟨lw_p24, List.forall_mem_cons.mpr ⟨lw_p25, List.forall_mem_cons.mpr ⟨lw_p26, List.forall_mem_cons.mpr ⟨lw_p27, List.forall_mem_cons.mpr ⟨lw_p28, List.forall_mem_cons.mpr ⟨lw_p29, List.forall_mem_cons.mpr ⟨lw_p30, List.forall_mem_cons.mpr ⟨lw_p31, fun _ h => absurd h List.not_mem_nil⟩⟩⟩⟩⟩⟩⟩⟩⟩⟩⟩⟩⟩⟩⟩⟩
theorem lw_p32 : lw_okq (⟨"PinDutiesModel", "hoursAll", "(IZ)I"⟩, 27) := ⟨⟨by decide +kernel, by decide +kernel⟩, List.mem_of_getElem? (i := 616) (by decide +kernel), List.mem_of_getElem? (i := 881) (by decide +kernel), List.mem_of_getElem? (i := 882) (by decide +kernel)⟩
theorem lw_p33 : lw_okq (⟨"PinDutiesModel", "answer", "(II)I"⟩, 27) := ⟨⟨by decide +kernel, by decide +kernel⟩, List.mem_of_getElem? (i := 616) (by decide +kernel), List.mem_of_getElem? (i := 885) (by decide +kernel), List.mem_of_getElem? (i := 886) (by decide +kernel)⟩
theorem lw_p34 : lw_okq (⟨"PinDutiesModel", "worthAll", "(I)I"⟩, 27) := ⟨⟨by decide +kernel, by decide +kernel⟩, List.mem_of_getElem? (i := 616) (by decide +kernel), List.mem_of_getElem? (i := 893) (by decide +kernel), List.mem_of_getElem? (i := 894) (by decide +kernel)⟩
theorem lw_p35 : lw_okq (⟨"PinDutiesModel", "clash", "(I)Z"⟩, 27) := ⟨⟨by decide +kernel, by decide +kernel⟩, List.mem_of_getElem? (i := 616) (by decide +kernel), List.mem_of_getElem? (i := 901) (by decide +kernel), List.mem_of_getElem? (i := 902) (by decide +kernel)⟩
theorem lw_p36 : lw_okq (⟨"PinDutiesModel", "bestOf", "(I)I"⟩, 27) := ⟨⟨by decide +kernel, by decide +kernel⟩, List.mem_of_getElem? (i := 616) (by decide +kernel), List.mem_of_getElem? (i := 909) (by decide +kernel), List.mem_of_getElem? (i := 910) (by decide +kernel)⟩
theorem lw_p37 : lw_okq (⟨"PinDutiesModel", "steps", "(I)I"⟩, 27) := ⟨⟨by decide +kernel, by decide +kernel⟩, List.mem_of_getElem? (i := 616) (by decide +kernel), List.mem_of_getElem? (i := 918) (by decide +kernel), List.mem_of_getElem? (i := 919) (by decide +kernel)⟩
theorem lw_p38 : lw_okq (⟨"PinDutiesModel", "refusesPairs", "(I)I"⟩, 27) := ⟨⟨by decide +kernel, by decide +kernel⟩, List.mem_of_getElem? (i := 616) (by decide +kernel), List.mem_of_getElem? (i := 938) (by decide +kernel), List.mem_of_getElem? (i := 939) (by decide +kernel)⟩
theorem lw_p39 : lw_okq (⟨"PinDutiesModel", "kindsOf", "(II)I"⟩, 27) := ⟨⟨by decide +kernel, by decide +kernel⟩, List.mem_of_getElem? (i := 616) (by decide +kernel), List.mem_of_getElem? (i := 944) (by decide +kernel), List.mem_of_getElem? (i := 945) (by decide +kernel)⟩
theorem lw_p40 : lw_okq (⟨"PinDutiesModel", "played", "(II)I"⟩, 27) := ⟨⟨by decide +kernel, by decide +kernel⟩, List.mem_of_getElem? (i := 616) (by decide +kernel), List.mem_of_getElem? (i := 961) (by decide +kernel), List.mem_of_getElem? (i := 962) (by decide +kernel)⟩
theorem lw_p41 : lw_okq (⟨"PinDutiesModel", "ways", "(II)J"⟩, 27) := ⟨⟨by decide +kernel, by decide +kernel⟩, List.mem_of_getElem? (i := 616) (by decide +kernel), List.mem_of_getElem? (i := 972) (by decide +kernel), List.mem_of_getElem? (i := 973) (by decide +kernel)⟩
theorem lw_p42 : lw_okq (⟨"PinDutiesModel", "laysBests", "()V"⟩, 27) := ⟨⟨by decide +kernel, by decide +kernel⟩, List.mem_of_getElem? (i := 616) (by decide +kernel), List.mem_of_getElem? (i := 976) (by decide +kernel), List.mem_of_getElem? (i := 977) (by decide +kernel)⟩
theorem lw_p43 : lw_okq (⟨"PinDutiesModel", "allWays", "()J"⟩, 27) := ⟨⟨by decide +kernel, by decide +kernel⟩, List.mem_of_getElem? (i := 616) (by decide +kernel), List.mem_of_getElem? (i := 980) (by decide +kernel), List.mem_of_getElem? (i := 981) (by decide +kernel)⟩
theorem lw_p44 : lw_okq (⟨"PinDutiesModel", "fraction", "(JJ)I"⟩, 27) := ⟨⟨by decide +kernel, by decide +kernel⟩, List.mem_of_getElem? (i := 616) (by decide +kernel), List.mem_of_getElem? (i := 984) (by decide +kernel), List.mem_of_getElem? (i := 985) (by decide +kernel)⟩
theorem lw_p45 : lw_okq (⟨"PinDutiesModel", "lot", "(I)V"⟩, 27) := ⟨⟨by decide +kernel, by decide +kernel⟩, List.mem_of_getElem? (i := 616) (by decide +kernel), List.mem_of_getElem? (i := 999) (by decide +kernel), List.mem_of_getElem? (i := 1000) (by decide +kernel)⟩
theorem lw_p46 : lw_okq (⟨"PinDutiesModel", "ofKind", "(I)I"⟩, 27) := ⟨⟨by decide +kernel, by decide +kernel⟩, List.mem_of_getElem? (i := 616) (by decide +kernel), List.mem_of_getElem? (i := 1022) (by decide +kernel), List.mem_of_getElem? (i := 1023) (by decide +kernel)⟩
def lw_privs_3 : List (MethodName × Nat) := [(⟨"PinDutiesModel", "hoursAll", "(IZ)I"⟩, 27), (⟨"PinDutiesModel", "answer", "(II)I"⟩, 27), (⟨"PinDutiesModel", "worthAll", "(I)I"⟩, 27), (⟨"PinDutiesModel", "clash", "(I)Z"⟩, 27), (⟨"PinDutiesModel", "bestOf", "(I)I"⟩, 27), (⟨"PinDutiesModel", "steps", "(I)I"⟩, 27), (⟨"PinDutiesModel", "refusesPairs", "(I)I"⟩, 27), (⟨"PinDutiesModel", "kindsOf", "(II)I"⟩, 27), (⟨"PinDutiesModel", "played", "(II)I"⟩, 27), (⟨"PinDutiesModel", "ways", "(II)J"⟩, 27), (⟨"PinDutiesModel", "laysBests", "()V"⟩, 27), (⟨"PinDutiesModel", "allWays", "()J"⟩, 27), (⟨"PinDutiesModel", "fraction", "(JJ)I"⟩, 27), (⟨"PinDutiesModel", "lot", "(I)V"⟩, 27), (⟨"PinDutiesModel", "ofKind", "(I)I"⟩, 27)]
theorem lw_r3 : ∀ q ∈ lw_privs_3, lw_okq q := List.forall_mem_cons.mpr ⟨lw_p32, List.forall_mem_cons.mpr ⟨lw_p33, List.forall_mem_cons.mpr ⟨lw_p34, List.forall_mem_cons.mpr ⟨lw_p35, List.forall_mem_cons.mpr ⟨lw_p36, List.forall_mem_cons.mpr ⟨lw_p37, List.forall_mem_cons.mpr ⟨lw_p38, List.forall_mem_cons.mpr ⟨lw_p39, List.forall_mem_cons.mpr ⟨lw_p40, List.forall_mem_cons.mpr ⟨lw_p41, List.forall_mem_cons.mpr ⟨lw_p42, List.forall_mem_cons.mpr ⟨lw_p43, List.forall_mem_cons.mpr ⟨lw_p44, List.forall_mem_cons.mpr ⟨lw_p45, List.forall_mem_cons.mpr ⟨lw_p46, fun _ h => absurd h List.not_mem_nil⟩⟩⟩⟩⟩⟩⟩⟩⟩⟩⟩⟩⟩⟩⟩
def lw_privs : List (MethodName × Nat) := lw_privs_1 ++ (lw_privs_2 ++ (lw_privs_3))
def lw_tbl : List Cond := k2_sels lw_privs ++ tables_1
theorem lw_privs_ok : ∀ q ∈ lw_privs, lw_okq q := by
  show ∀ q ∈ lw_privs_1 ++ (lw_privs_2 ++ (lw_privs_3)), lw_okq q
  exact List.forall_mem_append.mpr ⟨lw_r1, List.forall_mem_append.mpr ⟨lw_r2, lw_r3⟩⟩

def RX0 : String := "PinDuties$Cells"
def TX0 : u_T := fun k => match k with
  | 0 => ("PinDuties$Cells", "size", "I", false)
  | _ => ("PinDuties$Cells", "cells", "[I", true)
def tyX0 : Nat → FieldType := fun k => match k with
  | 0 => .int
  | _ => .array .int
abbrev wsX00 : List Cond := u_ws RX0 TX0 2
theorem nmX0 : ∀ a, a < 2 → ∀ b, b < 2 → a ≠ b → (TX0 a).2.1 ≠ (TX0 b).2.1 := by decide +kernel
theorem tyX0_ok : ∀ k, k < 2 → parseFieldDescriptor (TX0 k).2.2.1 = some (tyX0 k) := by decide +kernel
def RX1 : String := "PinDuties$Deeds"
def TX1 : u_T := fun k => match k with
  | 0 => ("PinDuties$Deeds", "done", "I", false)
  | _ => ("PinDuties$Deeds", "codes", "[I", true)
def tyX1 : Nat → FieldType := fun k => match k with
  | 0 => .int
  | _ => .array .int
abbrev wsX10 : List Cond := u_ws RX1 TX1 2
theorem nmX1 : ∀ a, a < 2 → ∀ b, b < 2 → a ≠ b → (TX1 a).2.1 ≠ (TX1 b).2.1 := by decide +kernel
theorem tyX1_ok : ∀ k, k < 2 → parseFieldDescriptor (TX1 k).2.2.1 = some (tyX1 k) := by decide +kernel
def RX2 : String := "PinDuties$Pins"
def TX2 : u_T := fun k => match k with
  | 0 => ("PinDuties$Pins", "many", "I", false)
  | 1 => ("PinDuties$Pins", "kind", "[I", true)
  | 2 => ("PinDuties$Pins", "place", "[I", true)
  | 3 => ("PinDuties$Pins", "hour", "[I", true)
  | 4 => ("PinDuties$Pins", "length", "[I", true)
  | 5 => ("PinDuties$Pins", "luck", "[I", true)
  | 6 => ("PinDuties$Pins", "hours", "[I", true)
  | 7 => ("PinDuties$Pins", "value", "[I", true)
  | 8 => ("PinDuties$Pins", "unions", "[I", true)
  | 9 => ("PinDuties$Pins", "sums", "[I", true)
  | 10 => ("PinDuties$Pins", "apart", "[Z", true)
  | _ => ("PinDuties$Pins", "most", "[I", true)
def tyX2 : Nat → FieldType := fun k => match k with
  | 0 => .int
  | 1 => .array .int
  | 2 => .array .int
  | 3 => .array .int
  | 4 => .array .int
  | 5 => .array .int
  | 6 => .array .int
  | 7 => .array .int
  | 8 => .array .int
  | 9 => .array .int
  | 10 => .array .boolean
  | _ => .array .int
abbrev wsX20 : List Cond := u_ws RX2 TX2 12
theorem nmX2 : ∀ a, a < 12 → ∀ b, b < 12 → a ≠ b → (TX2 a).2.1 ≠ (TX2 b).2.1 := by decide +kernel
theorem tyX2_ok : ∀ k, k < 12 → parseFieldDescriptor (TX2 k).2.2.1 = some (tyX2 k) := by decide +kernel
def RX3 : String := "PinDuties$Street"
def TX3 : u_T := fun k => match k with
  | 0 => ("PinDuties$Street", "pins", "LPinDuties$Pins;", true)
  | 1 => ("PinDuties$Street", "deeds", "LPinDuties$Deeds;", true)
  | 2 => ("PinDuties$Street", "place", "I", false)
  | 3 => ("PinDuties$Street", "held", "I", false)
  | 4 => ("PinDuties$Street", "swept", "I", false)
  | _ => ("PinDuties$Street", "lies", "[I", true)
def tyX3 : Nat → FieldType := fun k => match k with
  | 0 => .object "PinDuties$Pins"
  | 1 => .object "PinDuties$Deeds"
  | 2 => .int
  | 3 => .int
  | 4 => .int
  | _ => .array .int
abbrev wsX30 : List Cond := u_ws RX3 TX3 6
theorem nmX3 : ∀ a, a < 6 → ∀ b, b < 6 → a ≠ b → (TX3 a).2.1 ≠ (TX3 b).2.1 := by decide +kernel
theorem tyX3_ok : ∀ k, k < 6 → parseFieldDescriptor (TX3 k).2.2.1 = some (tyX3 k) := by decide +kernel
def RX4 : String := "PinDuties"
def TX4 : u_T := fun k => match k with
  | 0 => ("PinDuties", "rows", "[LPinDuties$Cells;", true)
  | 1 => ("PinDuties", "texts", "[LPinDuties$Cells;", true)
  | 2 => ("PinDuties", "kept", "[LPinDuties$Deeds;", true)
  | 3 => ("PinDuties", "street", "LPinDuties$Street;", true)
  | 4 => ("PinDuties", "found", "[I", true)
  | 5 => ("PinDuties", "latest", "I", false)
  | 6 => ("PinDuties", "told", "I", false)
  | 7 => ("PinDuties", "above", "J", false)
  | _ => ("PinDuties", "below", "J", false)
def tyX4 : Nat → FieldType := fun k => match k with
  | 0 => .array (.object "PinDuties$Cells")
  | 1 => .array (.object "PinDuties$Cells")
  | 2 => .array (.object "PinDuties$Deeds")
  | 3 => .object "PinDuties$Street"
  | 4 => .array .int
  | 5 => .int
  | 6 => .int
  | 7 => .long
  | _ => .long
abbrev wsX40 : List Cond := u_ws RX4 TX4 9
theorem nmX4 : ∀ a, a < 9 → ∀ b, b < 9 → a ≠ b → (TX4 a).2.1 ≠ (TX4 b).2.1 := by decide +kernel
theorem tyX4_ok : ∀ k, k < 9 → parseFieldDescriptor (TX4 k).2.2.1 = some (tyX4 k) := by decide +kernel
def RX5 : String := "PinDutiesModel"
def TX5 : u_T := fun k => match k with
  | 0 => ("PinDutiesModel", "rows", "[I", true)
  | 1 => ("PinDutiesModel", "rowSizes", "[I", true)
  | 2 => ("PinDutiesModel", "texts", "[I", true)
  | 3 => ("PinDutiesModel", "textSizes", "[I", true)
  | 4 => ("PinDutiesModel", "asked", "I", false)
  | 5 => ("PinDutiesModel", "upper", "J", false)
  | 6 => ("PinDutiesModel", "lower", "J", false)
  | 7 => ("PinDutiesModel", "finding", "I", false)
  | 8 => ("PinDutiesModel", "findings", "[I", true)
  | 9 => ("PinDutiesModel", "pins", "I", false)
  | 10 => ("PinDutiesModel", "kinds", "[I", true)
  | 11 => ("PinDutiesModel", "hours", "[I", true)
  | 12 => ("PinDutiesModel", "longs", "[I", true)
  | 13 => ("PinDutiesModel", "lucks", "[I", true)
  | 14 => ("PinDutiesModel", "now", "[I", true)
  | 15 => ("PinDutiesModel", "ahead", "[I", true)
  | 16 => ("PinDutiesModel", "deeds", "I", false)
  | 17 => ("PinDutiesModel", "kept", "[I", true)
  | 18 => ("PinDutiesModel", "at", "I", false)
  | 19 => ("PinDutiesModel", "size", "I", false)
  | 20 => ("PinDutiesModel", "which", "I", false)
  | 21 => ("PinDutiesModel", "value", "I", false)
  | 22 => ("PinDutiesModel", "readPins", "I", false)
  | 23 => ("PinDutiesModel", "read", "[I", true)
  | 24 => ("PinDutiesModel", "walkEnd", "I", false)
  | 25 => ("PinDutiesModel", "comes", "[I", true)
  | _ => ("PinDutiesModel", "bests", "[I", true)
def tyX5 : Nat → FieldType := fun k => match k with
  | 0 => .array .int
  | 1 => .array .int
  | 2 => .array .int
  | 3 => .array .int
  | 4 => .int
  | 5 => .long
  | 6 => .long
  | 7 => .int
  | 8 => .array .int
  | 9 => .int
  | 10 => .array .int
  | 11 => .array .int
  | 12 => .array .int
  | 13 => .array .int
  | 14 => .array .int
  | 15 => .array .int
  | 16 => .int
  | 17 => .array .int
  | 18 => .int
  | 19 => .int
  | 20 => .int
  | 21 => .int
  | 22 => .int
  | 23 => .array .int
  | 24 => .int
  | 25 => .array .int
  | _ => .array .int
abbrev wsX50 : List Cond := u_ws RX5 TX5 27
theorem nmX5 : ∀ a, a < 27 → ∀ b, b < 27 → a ≠ b → (TX5 a).2.1 ≠ (TX5 b).2.1 := by decide +kernel
theorem tyX5_ok : ∀ k, k < 27 → parseFieldDescriptor (TX5 k).2.2.1 = some (tyX5 k) := by decide +kernel
def RL : String := "PinDutiesLaw"
abbrev vwCl : List vw_C := [(RX0, TX0, 2), (RX1, TX1, 2), (RX2, TX2, 12), (RX3, TX3, 6), (RX4, TX4, 9), (RX5, TX5, 27)]

def lw_good : List Cond := lw_tbl.filter goodWord
theorem good_sub : ∀ w ∈ lw_good, w ∈ lw_tbl := fun _ h => (List.mem_filter.mp h).1
theorem good_all : ∀ w ∈ lw_good, goodWord w = true := fun _ h => (List.mem_filter.mp h).2
theorem good_at {w : Cond} (i : Nat) (h : lw_tbl[i]? = some w) (hg : goodWord w = true) : w ∈ lw_good := List.mem_filter.mpr ⟨List.mem_of_getElem? h, hg⟩
set_option maxRecDepth 100000 in
theorem inX0 : ∀ w ∈ wsX00, w ∈ lw_good := by
  have h : wsX00 = ([182, 184] : List Nat).filterMap (fun i => lw_tbl[i]?) := by decide +kernel
  intro w hw
  have hg : goodWord w = true := List.all_eq_true.mp (show wsX00.all goodWord = true by decide +kernel) w hw
  rw [h] at hw
  obtain ⟨i, -, hi⟩ := List.mem_filterMap.mp hw
  exact good_at i hi hg
set_option maxRecDepth 100000 in
theorem inX1 : ∀ w ∈ wsX10, w ∈ lw_good := by
  have h : wsX10 = ([143, 145] : List Nat).filterMap (fun i => lw_tbl[i]?) := by decide +kernel
  intro w hw
  have hg : goodWord w = true := List.all_eq_true.mp (show wsX10.all goodWord = true by decide +kernel) w hw
  rw [h] at hw
  obtain ⟨i, -, hi⟩ := List.mem_filterMap.mp hw
  exact good_at i hi hg
set_option maxRecDepth 100000 in
theorem inX2 : ∀ w ∈ wsX20, w ∈ lw_good := by
  have h : wsX20 = ([105, 107, 109, 111, 113, 115, 117, 119, 121, 123, 125, 127] : List Nat).filterMap (fun i => lw_tbl[i]?) := by decide +kernel
  intro w hw
  have hg : goodWord w = true := List.all_eq_true.mp (show wsX20.all goodWord = true by decide +kernel) w hw
  rw [h] at hw
  obtain ⟨i, -, hi⟩ := List.mem_filterMap.mp hw
  exact good_at i hi hg
set_option maxRecDepth 100000 in
theorem inX3 : ∀ w ∈ wsX30, w ∈ lw_good := by
  have h : wsX30 = ([159, 161, 163, 165, 167, 169] : List Nat).filterMap (fun i => lw_tbl[i]?) := by decide +kernel
  intro w hw
  have hg : goodWord w = true := List.all_eq_true.mp (show wsX30.all goodWord = true by decide +kernel) w hw
  rw [h] at hw
  obtain ⟨i, -, hi⟩ := List.mem_filterMap.mp hw
  exact good_at i hi hg
set_option maxRecDepth 100000 in
theorem inX4 : ∀ w ∈ wsX40, w ∈ lw_good := by
  have h : wsX40 = ([197, 199, 201, 203, 205, 207, 209, 211, 213] : List Nat).filterMap (fun i => lw_tbl[i]?) := by decide +kernel
  intro w hw
  have hg : goodWord w = true := List.all_eq_true.mp (show wsX40.all goodWord = true by decide +kernel) w hw
  rw [h] at hw
  obtain ⟨i, -, hi⟩ := List.mem_filterMap.mp hw
  exact good_at i hi hg
set_option maxRecDepth 100000 in
theorem inX5 : ∀ w ∈ wsX50, w ∈ lw_good := by
  have h : wsX50 = ([699, 701, 703, 705, 707, 709, 711, 713, 715, 717, 719, 721, 723, 725, 727, 729, 731, 733, 735, 737, 739, 741, 743, 745, 747, 749, 751] : List Nat).filterMap (fun i => lw_tbl[i]?) := by decide +kernel
  intro w hw
  have hg : goodWord w = true := List.all_eq_true.mp (show wsX50.all goodWord = true by decide +kernel) w hw
  rw [h] at hw
  obtain ⟨i, -, hi⟩ := List.mem_filterMap.mp hw
  exact good_at i hi hg
end
section
/-! 02: the world as a memory over a fixed layout; one rule an instruction -/
abbrev Mem : Type := (Nat → Nat → Int32) × (Nat → Nat → Int64)
abbrev Kd : Type := (Nat × List Nat) ⊕ (Nat × Nat) ⊕ (Nat × List Nat)
def sI (M : Mem) (p i : Nat) (v : Int32) : Mem := (fun q => if q = p then upd (M.1 q) i v else M.1 q, M.2)
def sL (M : Mem) (p i : Nat) (v : Int64) : Mem := (M.1, fun q => if q = p then vp_updL (M.2 q) i v else M.2 q)
def sF (M : Mem) (p : Nat) (f : Nat → Int32) : Mem := (fun q => if q = p then f else M.1 q, M.2)
def fv (ad : Nat → Nat) (M : Mem) (p k : Nat) (c : Nat) : Value := match c with
  | 0 => .int (M.1 p k)
  | 1 => .long (M.2 p k)
  | q + 2 => .ref (ad q)
def cellOf (ad : Nat → Nat) (cA : Nat → ClassId) (M : Mem) (p : Nat) (kd : Kd) : va_E := match kd with
  | .inl (ci, fs) => .inr (ci, fs.mapIdx (fv ad M p))
  | .inr (.inl (t, n)) => .inl (cA t, n, .inl (M.1 p))
  | .inr (.inr (t, qs)) => .inl (cA t, qs.length, .inr (.inr (.inr (.inr (fun i => (qs[i]?).map ad)))))
def wsOf (lay : List Kd) (ad : Nat → Nat) (cA : Nat → ClassId) (M : Mem) : va_W := lay.mapIdx (fun p kd => (ad p, cellOf ad cA M p kd))
theorem wsOf_get {lay : List Kd} {ad : Nat → Nat} {cA : Nat → ClassId} {M : Mem} {p : Nat} {kd : Kd} (h : lay[p]? = some kd) : (wsOf lay ad cA M)[p]? = some (ad p, cellOf ad cA M p kd) := by
  simp [wsOf, List.getElem?_mapIdx, h]
theorem fv_ne {ad : Nat → Nat} {M M' : Mem} {q : Nat} (h1 : M'.1 q = M.1 q) (h2 : M'.2 q = M.2 q) : fv ad M' q = fv ad M q := by
  funext k c
  rcases c with _ | _ | c
  · simp [fv, h1]
  · simp [fv, h2]
  · rfl
theorem cellOf_ne {ad : Nat → Nat} {cA : Nat → ClassId} {M M' : Mem} {q : Nat} (kd : Kd) (h1 : M'.1 q = M.1 q) (h2 : M'.2 q = M.2 q) : cellOf ad cA M' q kd = cellOf ad cA M q kd := by
  rcases kd with ⟨ci, fs⟩ | ⟨t, n⟩ | ⟨t, qs⟩
  · show Sum.inr (ci, fs.mapIdx (fv ad M' q)) = Sum.inr (ci, fs.mapIdx (fv ad M q))
    rw [fv_ne h1 h2]
  · show Sum.inl (cA t, n, Sum.inl (M'.1 q)) = Sum.inl (cA t, n, Sum.inl (M.1 q))
    rw [h1]
  · rfl
theorem wsOf_set {lay : List Kd} {ad : Nat → Nat} {cA : Nat → ClassId} {M M' : Mem} {p : Nat} {kd : Kd} {e : va_E} (h : lay[p]? = some kd) (hne : ∀ q, q ≠ p → M'.1 q = M.1 q ∧ M'.2 q = M.2 q) (he : e = cellOf ad cA M' p kd) : (wsOf lay ad cA M).set p (ad p, e) = wsOf lay ad cA M' := by
  subst he
  apply List.ext_getElem?
  intro k
  rw [List.getElem?_set]
  by_cases hk : p = k
  · subst hk
    have hp : p < (wsOf lay ad cA M).length := by
      have := (List.getElem?_eq_some_iff.mp h).1
      simpa [wsOf] using this
    rw [if_pos rfl, if_pos hp, wsOf_get h]
  · rw [if_neg hk]
    have hkp : k ≠ p := fun e => hk e.symm
    simp only [wsOf, List.getElem?_mapIdx]
    cases hl : lay[k]? with
    | none => rfl
    | some kd' =>
      show some (ad k, cellOf ad cA M k kd') = some (ad k, cellOf ad cA M' k kd')
      rw [cellOf_ne kd' (hne k hkp).1 (hne k hkp).2]
def AA (lay : List Kd) (ad : Nat → Nat) : Nat → Prop := fun q => ∃ p, p < lay.length ∧ q = ad p
def Inj (lay : List Kd) (ad : Nat → Nat) : Prop := ∀ i j, i < lay.length → j < lay.length → ad i = ad j → i = j
theorem wsOf_some {lay : List Kd} {ad : Nat → Nat} {cA : Nat → ClassId} {M : Mem} {k : Nat} {q : Nat × va_E} (h : (wsOf lay ad cA M)[k]? = some q) : k < lay.length ∧ q.1 = ad k := by
  simp only [wsOf, List.getElem?_mapIdx] at h
  cases hl : lay[k]? with
  | none => rw [hl] at h; cases h
  | some kd =>
    rw [hl] at h
    have h' : some (ad k, cellOf ad cA M k kd) = some q := h
    cases h'
    exact ⟨(List.getElem?_eq_some_iff.mp hl).1, rfl⟩
theorem wsOf_D {lay : List Kd} {ad : Nat → Nat} {cA : Nat → ClassId} {M : Mem} (h : Inj lay ad) : va_D (AA lay ad) (wsOf lay ad cA M) :=
  ⟨fun i j p q hi hj e => by
    obtain ⟨a1, a2⟩ := wsOf_some hi
    obtain ⟨b1, b2⟩ := wsOf_some hj
    exact h i j a1 b1 (by rw [← a2, ← b2, e]), fun k q hk => ⟨k, (wsOf_some hk).1, (wsOf_some hk).2⟩⟩
def letF : Nat → Int32 := fun j => match j with
  | 0 => 112
  | 1 => 99
  | 2 => 108
  | 3 => 109
  | 4 => 98
  | _ => 119
def SI (lay : List Kd) (ad : Nat → Nat) (t : Nat) (U : State) (H : Heap) : Prop := va_Z "PinDuties" "LETTERS" "[I" (.ref t) (AA lay ad) U H ∧ va_T .int t 6 (fun j => .int (letF j)) (AA lay ad) U H
theorem SI.moved {lay : List Kd} {ad : Nat → Nat} {t : Nat} {u U : State} {H : Heap} (hvm : u.vm.Alike U.vm) (h : SI lay ad t u H) : SI lay ad t U H := ⟨va_Z.moved hvm h.1, va_T.moved hvm h.2⟩
theorem SI.kept {lay : List Kd} {ad : Nat → Nat} {t : Nat} {U : State} {H H1 : Heap} (h : SI lay ad t U H) (hq : ∀ a : Nat, a < H.size → ¬ AA lay ad a → H1[a]? = H[a]?) : SI lay ad t U H1 := ⟨va_Z.kept h.1 hq, va_T.kept h.2 hq⟩
def nestWords : List (String × Nat × MethodName × String) := [("PinDuties$Street", 20, ⟨"PinDuties$Deeds", "<init>", "()V"⟩, "PinDuties"), ("PinDuties", 49, ⟨"PinDuties$Cells", "<init>", "()V"⟩, "PinDuties"), ("PinDuties", 50, ⟨"PinDuties$Deeds", "<init>", "()V"⟩, "PinDuties"), ("PinDuties$Pins", 75, ⟨"PinDuties", "kindOfLetter", "(I)I"⟩, "PinDuties"), ("PinDuties$Pins", 105, ⟨"PinDuties", "isOf", "(II)Z"⟩, "PinDuties")]
def NW (U : State) : Prop := ∀ q ∈ nestWords, va_Nw (.methodLinkNest q.1 q.2.1 q.2.2.1 q.2.2.2) U
theorem NW.warm {s U : State} (hW : s.WarmedH U.vm) (h : NW s) : NW U := fun q hq => va_Nw.warmM hW (h q hq)
def tysOf (cA : Nat → ClassId) : List (ClassId × FieldType) := [(cA 0, .int), (cA 1, .boolean), (cA 2, .object RX0), (cA 3, .object RX1)]
def rmL (n : Nat) : Room := { frames := n, cells := 0, slots := 0, locals := 50 * n }
def wsC (y : MethodName) (cc : ByteArray) (nL : Nat) (ret : Option FieldType) : List Cond := .code y cc nL ret :: lw_good
abbrev ZZ : Type := Launch × va_G × (Nat → ClassId) × Nat
def PP (lay : List Kd) (ad : Nat → Nat) (z : ZZ) (M : Mem) (av : List Value) : Array Value → State → Prop := fun v U => v = av.toArray ∧ va_P z.2.1 vwCl (wsOf lay ad z.2.2.1 M) U.heap ∧ va_K z.2.1 vwCl (tysOf z.2.2.1) U ∧ Inj lay ad ∧ SI lay ad z.2.2.2 U U.heap ∧ NW U
def QQ (lay : List Kd) (ad : Nat → Nat) (z : ZZ) (M' : Mem) (v' : Option Value) : Array Value → State → Outcome → State → Prop := fun _ st o t => o = .returned v' ∧ va_P z.2.1 vwCl (wsOf lay ad z.2.2.1 M') t.heap ∧ va_F (AA lay ad) st t
/-- a method's contract: from the memory M with the arguments av it comes to M' and answers v' -/
def Con (lay : List Kd) (ad : Nat → Nat) (z : ZZ) (y : MethodName) (cc : ByteArray) (nL : Nat) (ret : Option FieldType) (lev : Nat) (M : Mem) (av : List Value) (M' : Mem) (v' : Option Value) : Prop :=
  Met z.1 y (wsC y cc nL ret) (rmL lev) (PP lay ad z M av) (QQ lay ad z M' v') 0 0 (AA lay ad)
theorem PP_blind {lay : List Kd} {ad : Nat → Nat} {z : ZZ} {M : Mem} {av : List Value} : FrameBlind (PP lay ad z M av) := by
  intro a U g mk h
  obtain ⟨h1, h2, h3, h4, h5, h6⟩ := h
  exact ⟨h1, h2, va_K.moved (u := U) (U := U.calling g mk a) (Vm.Alike.refl U.vm) h3, h4, SI.moved (u := U) (U := U.calling g mk a) (Vm.Alike.refl U.vm) h5, fun q hq => va_Nw.same (u := U) (U := U.calling g mk a) rfl rfl (h6 q hq)⟩
abbrev XX : Type := ZZ × Program × Env × State × MethodId × Array Value × List Frame × Method × Code × Nat × Nat × Mem × Option Value
def Cx (lay : List Kd) (ad : Nat → Nat) (X : XX) (cc : ByteArray) (own : String) (nL lev : Nat) (ret : Option FieldType) (M' : Mem) (v' : Option Value) : Prop := match X with
  | (z, p, _, s, m, args, _, meth, c, nL', lev', Mf, vf) => p.tables.exec = Jvm.exec ∧ c.code = cc ∧ meth.sig.returnType = ret ∧ c.maxLocals = nL ∧ s.vm.findClass own = some m.cls ∧ (∀ w ∈ lw_good, w.before args s = true) ∧ meth.locks = false ∧ va_K z.2.1 vwCl (tysOf z.2.2.1) s ∧ Inj lay ad ∧ SI lay ad z.2.2.2 s s.heap ∧ NW s ∧ nL' = nL ∧ lev' = lev ∧ Mf = M' ∧ vf = v'
def Wp (lay : List Kd) (ad : Nat → Nat) (X : XX) (M : Mem) (pc : Nat) (lv : List (Nat × Value)) (st : List Value) : Prop := match X with
  | (z, p, e, s, m, args, below, meth, c, nL, lev, Mf, vf) => ∀ (H : Heap) (locs : List Loc) (ls : Array Slot), va_P z.2.1 vwCl (wsOf lay ad z.2.2.1 M) H → va_S (AA lay ad) s.heap H locs → lv_has ls nL lv → W p z.1 e (rmL lev) s m args below meth c H locs 0 0 (MQ below (QQ lay ad z Mf vf) args s 0 0 (AA lay ad)) (F0 m pc ls st)
set_option maxHeartbeats 1000000 in
theorem con_of {lay : List Kd} {ad : Nat → Nat} {z : ZZ} {y : MethodName} {cc : ByteArray} {nL : Nat} {ret : Option FieldType} {lev : Nat} {M : Mem} {av : List Value} {M' : Mem} {v' : Option Value} {own : String} {lv : List (Nat × Value)} (hy : plainName y.cls = true) (hown : y.cls = own) (hn : (lg_sl av).length ≤ nL) (hlv : lv_args 0 av = lv)
    (body : ∀ X : XX, X.1 = z → Cx lay ad X cc own nL lev ret M' v' → Wp lay ad X M 0 lv []) : Con lay ad z y cc nL ret lev M av M' v' := by
  obtain ⟨l, D, cA, t⟩ := z
  refine Met.ofW (cc := cc) (maxL := nL) (ret := ret) hy rfl ?_
  intro p e s m args below meth c s₁ B hml hv
  obtain ⟨rfl, hP, hK, hI, hZ, hNW⟩ := hv
  have hts := atoms_spec (ws := wsC y cc nL ret) B.pre
  have hown2 : s.vm.findClass own = some m.cls := by rw [← hown]; exact findClass_of_methodNamed B.named
  have hl := lv_entry av hn
  rw [lg_entry_eq]
  have hl2 : lv_has ((lg_sl av ++ List.replicate (nL - (lg_sl av).length) Slot.unset).toArray) nL lv := by rw [← hlv]; exact hl
  exact body ((l, D, cA, t), p, e, s, m, av.toArray, below, meth, c, nL, lev, M', v') rfl ⟨B.exec, B.bytes, B.returns, hml, hown2, fun w hw => hts w (List.mem_cons_of_mem _ hw), B.notSynchronized, hK, hI, hZ, hNW, rfl, rfl, rfl, rfl⟩ s.heap [] _ hP va_S.rf hl2
/-- a value gets a name -/
def nm {α β : Type} (e : α) (k : α → β) : β := k e
theorem nm_e2 {α β : Type} {e : α} {k : α → β} {r : β} (h : nm e k = r) : ∃ x, x = e ∧ k x = r := ⟨e, rfl, h⟩
theorem bd {α β : Type} {o : Option α} {k : α → Option β} {r : β} (h : o.bind k = some r) : ∃ v, o = some v ∧ k v = some r := by
  cases o with
  | none => cases h
  | some v => exact ⟨v, rfl, h⟩
def rd (M : Mem) (p n : Nat) (i : Int32) : Option Int32 := if i < 0 ∨ n ≤ i.toNatClampNeg then none else some (M.1 p i.toNatClampNeg)
def wr (M : Mem) (p n : Nat) (i v : Int32) : Option Mem := if i < 0 ∨ n ≤ i.toNatClampNeg then none else some (sI M p i.toNatClampNeg v)
def rdR (qs : List Nat) (i : Int32) : Option Nat := if i < 0 ∨ qs.length ≤ i.toNatClampNeg then none else qs[i.toNatClampNeg]?
def rdT (i : Int32) : Option Int32 := if i < 0 ∨ 6 ≤ i.toNatClampNeg then none else some (letF i.toNatClampNeg)
def dvI (x y : Int32) : Option Int32 := if y = 0 then none else some (x / y)
def rmI (x y : Int32) : Option Int32 := if y = 0 then none else some (x - x / y * y)
def dvL (x y : Int64) : Option Int64 := if y = 0 then none else some (x / y)
def rmLo (x y : Int64) : Option Int64 := if y = 0 then none else some (x - x / y * y)
def zr (v : Int32) : Option Int32 := if v = 0 ∨ v = 1 then some v else none
def zb (v : Int32) : Int32 := v &&& 1
def gd (b : Bool) : Option Unit := if b = true then some () else none
theorem gd_s {b : Bool} {u : Unit} (h : gd b = some u) : b = true := by cases b with | true => rfl | false => cases h
abbrev rv (ad : Nat → Nat) (o : Option Nat) : Value := match o with | none => .null | some q => .ref (ad q)
theorem zr0 : zr 0 = some 0 := by decide
theorem zr1 : zr 1 = some 1 := by decide
def cpy (M : Mem) (p0 n0 : Nat) (sp : Int32) (p1 n1 : Nat) (dp n : Int32) : Option Mem :=
  if sp < 0 ∨ dp < 0 ∨ n < 0 ∨ n0 < sp.toNatClampNeg + n.toNatClampNeg ∨ n1 < dp.toNatClampNeg + n.toNatClampNeg then none
  else some (sF M p1 (va_cpy (M.1 p0) (M.1 p1) sp.toNatClampNeg dp.toNatClampNeg n.toNatClampNeg))
theorem rd_s {M : Mem} {p n : Nat} {i v : Int32} (h : rd M p n i = some v) : vp_in i n ∧ v = M.1 p i.toNatClampNeg := by
  unfold rd at h
  by_cases c : i < 0 ∨ n ≤ i.toNatClampNeg
  · rw [if_pos c] at h; cases h
  · rw [if_neg c] at h; cases h; exact ⟨c, rfl⟩
theorem wr_s {M M1 : Mem} {p n : Nat} {i v : Int32} (h : wr M p n i v = some M1) : vp_in i n ∧ M1 = sI M p i.toNatClampNeg v := by
  unfold wr at h
  by_cases c : i < 0 ∨ n ≤ i.toNatClampNeg
  · rw [if_pos c] at h; cases h
  · rw [if_neg c] at h; cases h; exact ⟨c, rfl⟩
theorem rdR_s {qs : List Nat} {q : Nat} {i : Int32} (h : rdR qs i = some q) : vp_in i qs.length ∧ qs[i.toNatClampNeg]? = some q := by
  unfold rdR at h
  by_cases c : i < 0 ∨ qs.length ≤ i.toNatClampNeg
  · rw [if_pos c] at h; cases h
  · rw [if_neg c] at h; exact ⟨c, h⟩
theorem sI_ne {M : Mem} {p i : Nat} {v : Int32} (q : Nat) (h : q ≠ p) : (sI M p i v).1 q = M.1 q ∧ (sI M p i v).2 q = M.2 q := ⟨by simp [sI, h], rfl⟩
theorem sL_ne {M : Mem} {p i : Nat} {v : Int64} (q : Nat) (h : q ≠ p) : (sL M p i v).1 q = M.1 q ∧ (sL M p i v).2 q = M.2 q := ⟨rfl, by simp [sL, h]⟩
theorem sF_ne {M : Mem} {p : Nat} {f : Nat → Int32} (q : Nat) (h : q ≠ p) : (sF M p f).1 q = M.1 q ∧ (sF M p f).2 q = M.2 q := ⟨by simp [sF, h], rfl⟩
/-- the field that an entry of a class's pool links -/
def FL (own : String) (idx ci k : Nat) : Prop := ∃ (C : String) (T : u_T) (N : Nat), vwCl[ci]? = some (C, T, N) ∧ k < N ∧ (∀ w ∈ u_ws C T N, w ∈ lw_good) ∧ Cond.fieldLink own idx (T k).1 (T k).2.1 (T k).2.2.1 ∈ lw_good
/-- the same, of one that may be written -/
def FP (own : String) (idx ci k : Nat) (ty : FieldType) : Prop := ∃ (C : String) (T : u_T) (N : Nat) (ty0 : Nat → FieldType), vwCl[ci]? = some (C, T, N) ∧ k < N ∧ (∀ w ∈ u_ws C T N, w ∈ lw_good) ∧ Cond.fieldLink own idx (T k).1 (T k).2.1 (T k).2.2.1 ∈ lw_good ∧ (∀ k, k < N → parseFieldDescriptor (T k).2.2.1 = some (ty0 k)) ∧ (∀ a, a < N → ∀ b, b < N → a ≠ b → (T a).2.1 ≠ (T b).2.1) ∧ (T k).2.2.2 = false ∧ parseFieldDescriptor (T k).2.2.1 = some ty
/-- a call's words: an instance method, a static one, a static one of a nest mate -/
def CV (own : String) (idx : Nat) (y : MethodName) (cc : ByteArray) (nL : Nat) (ret : Option FieldType) (n ci : Nat) : Prop := Cond.methodLink own idx y ∈ lw_good ∧ Cond.instanceMethod y ∈ lw_good ∧ Cond.selects y.cls y y ∈ lw_good ∧ Cond.initialized y.cls ∈ lw_good ∧ Cond.code y cc nL ret ∈ lw_good ∧ (y.cls ≠ "java/lang/invoke/MethodHandle" ∧ y.cls ≠ "java/lang/invoke/VarHandle" ∧ (parseMethodDescriptor y.desc).map (fun d => d.parameters.length) = some n) ∧ ∃ T N, vwCl[ci]? = some (y.cls, T, N)
def CS (own : String) (idx : Nat) (y : MethodName) (cc : ByteArray) (nL : Nat) (ret : Option FieldType) (n : Nat) : Prop := Cond.methodLink own idx y ∈ lw_good ∧ Cond.static y ∈ lw_good ∧ Cond.initialized y.cls ∈ lw_good ∧ Cond.code y cc nL ret ∈ lw_good ∧ (y.cls ≠ "java/lang/invoke/MethodHandle" ∧ y.cls ≠ "java/lang/invoke/VarHandle" ∧ (parseMethodDescriptor y.desc).map (fun d => d.parameters.length) = some n)
def CN (own : String) (idx : Nat) (y : MethodName) (host : String) (cc : ByteArray) (nL : Nat) (ret : Option FieldType) (n : Nat) : Prop := (own, idx, y, host) ∈ nestWords ∧ Cond.static y ∈ lw_good ∧ Cond.initialized y.cls ∈ lw_good ∧ Cond.code y cc nL ret ∈ lw_good ∧ (y.cls ≠ "java/lang/invoke/MethodHandle" ∧ y.cls ≠ "java/lang/invoke/VarHandle" ∧ (parseMethodDescriptor y.desc).map (fun d => d.parameters.length) = some n)
theorem good_wsC {y : MethodName} {cc : ByteArray} {nL : Nat} {ret : Option FieldType} (h : Cond.code y cc nL ret ∈ lw_good) : GoodIn lw_good (wsC y cc nL ret) := by
  have hg : ∀ w ∈ lw_good, w ∈ lw_good ∧ ((w.onTables && w.keeps) = true ∨ ∃ ty, w = .arrayClass ty) := fun w hw => ⟨hw, good_of_word (good_all w hw)⟩
  intro w hw
  rcases List.mem_cons.mp hw with e | hw
  · rw [e]; exact hg _ h
  · exact hg w hw
theorem put_I {ad : Nat → Nat} {M : Mem} {q0 k0 : Nat} {fs : List Nat} {x : Int32} (hk : fs[k0]? = some 0) : (fs.mapIdx (fv ad M q0)).set k0 (.int x) = fs.mapIdx (fv ad (sI M q0 k0 x) q0) := by
  have hlen : k0 < fs.length := (List.getElem?_eq_some_iff.mp hk).1
  apply List.ext_getElem?
  intro j
  rw [List.getElem?_set]
  by_cases hj : k0 = j
  · subst hj
    rw [if_pos rfl, if_pos (by simpa using hlen), List.getElem?_mapIdx, hk]
    simp [fv, sI, upd]
  · rw [if_neg hj]
    simp only [List.getElem?_mapIdx]
    cases hc : fs[j]? with
    | none => rfl
    | some c =>
      have hj2 : j ≠ k0 := fun e => hj e.symm
      rcases c with _ | _ | c <;> simp [fv, sI, upd, hj2]
theorem put_L {ad : Nat → Nat} {M : Mem} {q0 k0 : Nat} {fs : List Nat} {x : Int64} (hk : fs[k0]? = some 1) : (fs.mapIdx (fv ad M q0)).set k0 (.long x) = fs.mapIdx (fv ad (sL M q0 k0 x) q0) := by
  have hlen : k0 < fs.length := (List.getElem?_eq_some_iff.mp hk).1
  apply List.ext_getElem?
  intro j
  rw [List.getElem?_set]
  by_cases hj : k0 = j
  · subst hj
    rw [if_pos rfl, if_pos (by simpa using hlen), List.getElem?_mapIdx, hk]
    simp [fv, sL, vp_updL]
  · rw [if_neg hj]
    simp only [List.getElem?_mapIdx]
    cases hc : fs[j]? with
    | none => rfl
    | some c =>
      have hj2 : j ≠ k0 := fun e => hj e.symm
      rcases c with _ | _ | c <;> simp [fv, sL, vp_updL, hj2]
theorem copy_room {n : Nat} (h : 2 ≤ n) : (([] : List Value).map fun v => v.category).sum + (nativeFrameWords "java/lang/System" "arraycopy" 5 + 11) ≤ (rmL n).locals := by
  have h1 : nativeFrameWords "java/lang/System" "arraycopy" 5 + 11 ≤ 100 := by decide +kernel
  show 0 + (nativeFrameWords "java/lang/System" "arraycopy" 5 + 11) ≤ 50 * n
  omega
theorem itp {c : Prop} [Decidable c] {α : Type} {a b r : α} (hc : c) (h : (if c then a else b) = r) : a = r := by rwa [if_pos hc] at h
theorem ifn {c : Prop} [Decidable c] {α : Type} {a b r : α} (hc : ¬ c) (h : (if c then a else b) = r) : b = r := by rwa [if_neg hc] at h
section RULES
variable {lay : List Kd} {ad : Nat → Nat} {X : XX} {cc : ByteArray} {own : String} {nL lev : Nat} {ret : Option FieldType} {M' : Mem} {v' : Option Value} {M : Mem} {pc : Nat} {lv lv' : List (Nat × Value)} {st : List Value}
theorem Wp_sub {nX : Nat} (ks : List Nat) (hl : lv_pick lv ks = lv') (k : Wp lay ad X M pc lv' st) : Wp lay ad X M pc lv st := by
  obtain ⟨z, p, e, s, m, args, below, meth, c, nL', lev', Mf, vf⟩ := X
  intro H locs ls hP hS hh
  exact k H locs ls hP hS (lv_sub hh ks hl)

theorem R_iconst (h : Cx lay ad X cc own nL lev ret M' v') {n : Int} {v : Int32} (hv : Int32.ofInt n = v) (hd : decode cc pc = .ok (.iconst n, 1)) (k : Wp lay ad X M (pc + 1) lv (.int v :: st)) : Wp lay ad X M pc lv (st) := by
  obtain ⟨⟨l, D, cA, t⟩, p, e, s, m, args, below, meth, c, nL', lev', Mf, vf⟩ := X
  obtain ⟨hx, hb, hr, hml, hown, hts, hlk, hK, hI, hZ, hNW, rfl, rfl, rfl, rfl⟩ := h
  intro H locs ls hP hS hl
  exact lv_iconst hx hb hd hv (k H locs ls hP hS hl)
theorem R_bipush (h : Cx lay ad X cc own nL lev ret M' v') {n : Int} {v : Int32} (hv : (Int8.ofInt n).toInt32 = v) (hd : decode cc pc = .ok (.bipush n, 2)) (k : Wp lay ad X M (pc + 2) lv (.int v :: st)) : Wp lay ad X M pc lv (st) := by
  obtain ⟨⟨l, D, cA, t⟩, p, e, s, m, args, below, meth, c, nL', lev', Mf, vf⟩ := X
  obtain ⟨hx, hb, hr, hml, hown, hts, hlk, hK, hI, hZ, hNW, rfl, rfl, rfl, rfl⟩ := h
  intro H locs ls hP hS hl
  exact lv_bipush hx hb hd hv (k H locs ls hP hS hl)
theorem R_sipush (h : Cx lay ad X cc own nL lev ret M' v') {n : Int} {v : Int32} (hv : (Int16.ofInt n).toInt32 = v) (hd : decode cc pc = .ok (.sipush n, 3)) (k : Wp lay ad X M (pc + 3) lv (.int v :: st)) : Wp lay ad X M pc lv (st) := by
  obtain ⟨⟨l, D, cA, t⟩, p, e, s, m, args, below, meth, c, nL', lev', Mf, vf⟩ := X
  obtain ⟨hx, hb, hr, hml, hown, hts, hlk, hK, hI, hZ, hNW, rfl, rfl, rfl, rfl⟩ := h
  intro H locs ls hP hS hl
  exact lv_sipush hx hb hd hv (k H locs ls hP hS hl)
theorem R_lconst (h : Cx lay ad X cc own nL lev ret M' v') {n : Fin 2} {v : Int64} (hv : Int64.ofNat (n : Nat) = v) (hd : decode cc pc = .ok (.lconst n, 1)) (k : Wp lay ad X M (pc + 1) lv (.long v :: st)) : Wp lay ad X M pc lv (st) := by
  obtain ⟨⟨l, D, cA, t⟩, p, e, s, m, args, below, meth, c, nL', lev', Mf, vf⟩ := X
  obtain ⟨hx, hb, hr, hml, hown, hts, hlk, hK, hI, hZ, hNW, rfl, rfl, rfl, rfl⟩ := h
  intro H locs ls hP hS hl
  exact lv_lconst hx hb hd hv (k H locs ls hP hS hl)
theorem R_iadd (h : Cx lay ad X cc own nL lev ret M' v') {x y : Int32} (hd : decode cc pc = .ok (.iadd, 1)) (k : Wp lay ad X M (pc + 1) lv (.int (x + y) :: st)) : Wp lay ad X M pc lv (.int y :: .int x :: st) := by
  obtain ⟨⟨l, D, cA, t⟩, p, e, s, m, args, below, meth, c, nL', lev', Mf, vf⟩ := X
  obtain ⟨hx, hb, hr, hml, hown, hts, hlk, hK, hI, hZ, hNW, rfl, rfl, rfl, rfl⟩ := h
  intro H locs ls hP hS hl
  exact lv_iadd hx hb hd (k H locs ls hP hS hl)
theorem R_isub (h : Cx lay ad X cc own nL lev ret M' v') {x y : Int32} (hd : decode cc pc = .ok (.isub, 1)) (k : Wp lay ad X M (pc + 1) lv (.int (x - y) :: st)) : Wp lay ad X M pc lv (.int y :: .int x :: st) := by
  obtain ⟨⟨l, D, cA, t⟩, p, e, s, m, args, below, meth, c, nL', lev', Mf, vf⟩ := X
  obtain ⟨hx, hb, hr, hml, hown, hts, hlk, hK, hI, hZ, hNW, rfl, rfl, rfl, rfl⟩ := h
  intro H locs ls hP hS hl
  exact lv_isub hx hb hd (k H locs ls hP hS hl)
theorem R_imul (h : Cx lay ad X cc own nL lev ret M' v') {x y : Int32} (hd : decode cc pc = .ok (.imul, 1)) (k : Wp lay ad X M (pc + 1) lv (.int (x * y) :: st)) : Wp lay ad X M pc lv (.int y :: .int x :: st) := by
  obtain ⟨⟨l, D, cA, t⟩, p, e, s, m, args, below, meth, c, nL', lev', Mf, vf⟩ := X
  obtain ⟨hx, hb, hr, hml, hown, hts, hlk, hK, hI, hZ, hNW, rfl, rfl, rfl, rfl⟩ := h
  intro H locs ls hP hS hl
  exact lv_imul hx hb hd (k H locs ls hP hS hl)
theorem R_iand (h : Cx lay ad X cc own nL lev ret M' v') {x y : Int32} (hd : decode cc pc = .ok (.iand, 1)) (k : Wp lay ad X M (pc + 1) lv (.int (x &&& y) :: st)) : Wp lay ad X M pc lv (.int y :: .int x :: st) := by
  obtain ⟨⟨l, D, cA, t⟩, p, e, s, m, args, below, meth, c, nL', lev', Mf, vf⟩ := X
  obtain ⟨hx, hb, hr, hml, hown, hts, hlk, hK, hI, hZ, hNW, rfl, rfl, rfl, rfl⟩ := h
  intro H locs ls hP hS hl
  exact lv_iand hx hb hd (k H locs ls hP hS hl)
theorem R_ior (h : Cx lay ad X cc own nL lev ret M' v') {x y : Int32} (hd : decode cc pc = .ok (.ior, 1)) (k : Wp lay ad X M (pc + 1) lv (.int (x ||| y) :: st)) : Wp lay ad X M pc lv (.int y :: .int x :: st) := by
  obtain ⟨⟨l, D, cA, t⟩, p, e, s, m, args, below, meth, c, nL', lev', Mf, vf⟩ := X
  obtain ⟨hx, hb, hr, hml, hown, hts, hlk, hK, hI, hZ, hNW, rfl, rfl, rfl, rfl⟩ := h
  intro H locs ls hP hS hl
  exact lv_ior hx hb hd (k H locs ls hP hS hl)
theorem R_ixor (h : Cx lay ad X cc own nL lev ret M' v') {x y : Int32} (hd : decode cc pc = .ok (.ixor, 1)) (k : Wp lay ad X M (pc + 1) lv (.int (x ^^^ y) :: st)) : Wp lay ad X M pc lv (.int y :: .int x :: st) := by
  obtain ⟨⟨l, D, cA, t⟩, p, e, s, m, args, below, meth, c, nL', lev', Mf, vf⟩ := X
  obtain ⟨hx, hb, hr, hml, hown, hts, hlk, hK, hI, hZ, hNW, rfl, rfl, rfl, rfl⟩ := h
  intro H locs ls hP hS hl
  exact lv_ixor hx hb hd (k H locs ls hP hS hl)
theorem R_ishl (h : Cx lay ad X cc own nL lev ret M' v') {x y : Int32} (hd : decode cc pc = .ok (.ishl, 1)) (k : Wp lay ad X M (pc + 1) lv (.int (x <<< (y &&& 31)) :: st)) : Wp lay ad X M pc lv (.int y :: .int x :: st) := by
  obtain ⟨⟨l, D, cA, t⟩, p, e, s, m, args, below, meth, c, nL', lev', Mf, vf⟩ := X
  obtain ⟨hx, hb, hr, hml, hown, hts, hlk, hK, hI, hZ, hNW, rfl, rfl, rfl, rfl⟩ := h
  intro H locs ls hP hS hl
  exact lv_ishl hx hb hd (k H locs ls hP hS hl)
theorem R_ishr (h : Cx lay ad X cc own nL lev ret M' v') {x y : Int32} (hd : decode cc pc = .ok (.ishr, 1)) (k : Wp lay ad X M (pc + 1) lv (.int (x >>> (y &&& 31)) :: st)) : Wp lay ad X M pc lv (.int y :: .int x :: st) := by
  obtain ⟨⟨l, D, cA, t⟩, p, e, s, m, args, below, meth, c, nL', lev', Mf, vf⟩ := X
  obtain ⟨hx, hb, hr, hml, hown, hts, hlk, hK, hI, hZ, hNW, rfl, rfl, rfl, rfl⟩ := h
  intro H locs ls hP hS hl
  exact lv_ishr hx hb hd (k H locs ls hP hS hl)
theorem R_ineg (h : Cx lay ad X cc own nL lev ret M' v') {x : Int32} (hd : decode cc pc = .ok (.ineg, 1)) (k : Wp lay ad X M (pc + 1) lv (.int (-x) :: st)) : Wp lay ad X M pc lv (.int x :: st) := by
  obtain ⟨⟨l, D, cA, t⟩, p, e, s, m, args, below, meth, c, nL', lev', Mf, vf⟩ := X
  obtain ⟨hx, hb, hr, hml, hown, hts, hlk, hK, hI, hZ, hNW, rfl, rfl, rfl, rfl⟩ := h
  intro H locs ls hP hS hl
  exact lv_ineg hx hb hd (k H locs ls hP hS hl)
theorem R_ladd (h : Cx lay ad X cc own nL lev ret M' v') {x y : Int64} (hd : decode cc pc = .ok (.ladd, 1)) (k : Wp lay ad X M (pc + 1) lv (.long (x + y) :: st)) : Wp lay ad X M pc lv (.long y :: .long x :: st) := by
  obtain ⟨⟨l, D, cA, t⟩, p, e, s, m, args, below, meth, c, nL', lev', Mf, vf⟩ := X
  obtain ⟨hx, hb, hr, hml, hown, hts, hlk, hK, hI, hZ, hNW, rfl, rfl, rfl, rfl⟩ := h
  intro H locs ls hP hS hl
  exact lv_ladd hx hb hd (k H locs ls hP hS hl)
theorem R_lsub (h : Cx lay ad X cc own nL lev ret M' v') {x y : Int64} (hd : decode cc pc = .ok (.lsub, 1)) (k : Wp lay ad X M (pc + 1) lv (.long (x - y) :: st)) : Wp lay ad X M pc lv (.long y :: .long x :: st) := by
  obtain ⟨⟨l, D, cA, t⟩, p, e, s, m, args, below, meth, c, nL', lev', Mf, vf⟩ := X
  obtain ⟨hx, hb, hr, hml, hown, hts, hlk, hK, hI, hZ, hNW, rfl, rfl, rfl, rfl⟩ := h
  intro H locs ls hP hS hl
  exact lv_lsub hx hb hd (k H locs ls hP hS hl)
theorem R_lmul (h : Cx lay ad X cc own nL lev ret M' v') {x y : Int64} (hd : decode cc pc = .ok (.lmul, 1)) (k : Wp lay ad X M (pc + 1) lv (.long (x * y) :: st)) : Wp lay ad X M pc lv (.long y :: .long x :: st) := by
  obtain ⟨⟨l, D, cA, t⟩, p, e, s, m, args, below, meth, c, nL', lev', Mf, vf⟩ := X
  obtain ⟨hx, hb, hr, hml, hown, hts, hlk, hK, hI, hZ, hNW, rfl, rfl, rfl, rfl⟩ := h
  intro H locs ls hP hS hl
  exact lv_lmul hx hb hd (k H locs ls hP hS hl)
theorem R_i2l (h : Cx lay ad X cc own nL lev ret M' v') {x : Int32} (hd : decode cc pc = .ok (.i2l, 1)) (k : Wp lay ad X M (pc + 1) lv (.long x.toInt64 :: st)) : Wp lay ad X M pc lv (.int x :: st) := by
  obtain ⟨⟨l, D, cA, t⟩, p, e, s, m, args, below, meth, c, nL', lev', Mf, vf⟩ := X
  obtain ⟨hx, hb, hr, hml, hown, hts, hlk, hK, hI, hZ, hNW, rfl, rfl, rfl, rfl⟩ := h
  intro H locs ls hP hS hl
  exact lv_i2l hx hb hd rfl (k H locs ls hP hS hl)
theorem R_l2i (h : Cx lay ad X cc own nL lev ret M' v') {x : Int64} (hd : decode cc pc = .ok (.l2i, 1)) (k : Wp lay ad X M (pc + 1) lv (.int x.toInt32 :: st)) : Wp lay ad X M pc lv (.long x :: st) := by
  obtain ⟨⟨l, D, cA, t⟩, p, e, s, m, args, below, meth, c, nL', lev', Mf, vf⟩ := X
  obtain ⟨hx, hb, hr, hml, hown, hts, hlk, hK, hI, hZ, hNW, rfl, rfl, rfl, rfl⟩ := h
  intro H locs ls hP hS hl
  exact lv_l2i hx hb hd rfl (k H locs ls hP hS hl)
theorem R_i2b (h : Cx lay ad X cc own nL lev ret M' v') {x : Int32} (hd : decode cc pc = .ok (.i2b, 1)) (k : Wp lay ad X M (pc + 1) lv (.int x.toInt8.toInt32 :: st)) : Wp lay ad X M pc lv (.int x :: st) := by
  obtain ⟨⟨l, D, cA, t⟩, p, e, s, m, args, below, meth, c, nL', lev', Mf, vf⟩ := X
  obtain ⟨hx, hb, hr, hml, hown, hts, hlk, hK, hI, hZ, hNW, rfl, rfl, rfl, rfl⟩ := h
  intro H locs ls hP hS hl
  exact lv_i2b hx hb hd rfl (k H locs ls hP hS hl)
theorem R_iushr (h : Cx lay ad X cc own nL lev ret M' v') {x y : Int32} (hd : decode cc pc = .ok (.iushr, 1)) (k : Wp lay ad X M (pc + 1) lv (.int (x.toUInt32 >>> (y.toUInt32 &&& Int32.toUInt32 31)).toInt32 :: st)) : Wp lay ad X M pc lv (.int y :: .int x :: st) := by
  obtain ⟨⟨l, D, cA, t⟩, p, e, s, m, args, below, meth, c, nL', lev', Mf, vf⟩ := X
  obtain ⟨hx, hb, hr, hml, hown, hts, hlk, hK, hI, hZ, hNW, rfl, rfl, rfl, rfl⟩ := h
  intro H locs ls hP hS hl
  exact lv_iushr hx hb hd rfl (k H locs ls hP hS hl)
theorem R_dup (h : Cx lay ad X cc own nL lev ret M' v') {va : Value} (hva : va.category = 1) (hd : decode cc pc = .ok (.dup, 1)) (k : Wp lay ad X M (pc + 1) lv (va :: va :: st)) : Wp lay ad X M pc lv (va :: st) := by
  obtain ⟨⟨l, D, cA, t⟩, p, e, s, m, args, below, meth, c, nL', lev', Mf, vf⟩ := X
  obtain ⟨hx, hb, hr, hml, hown, hts, hlk, hK, hI, hZ, hNW, rfl, rfl, rfl, rfl⟩ := h
  intro H locs ls hP hS hl
  exact lv_dup hx hb hd hva (k H locs ls hP hS hl)
theorem R_pop (h : Cx lay ad X cc own nL lev ret M' v') {va : Value} (hva : va.category = 1) (hd : decode cc pc = .ok (.pop, 1)) (k : Wp lay ad X M (pc + 1) lv (st)) : Wp lay ad X M pc lv (va :: st) := by
  obtain ⟨⟨l, D, cA, t⟩, p, e, s, m, args, below, meth, c, nL', lev', Mf, vf⟩ := X
  obtain ⟨hx, hb, hr, hml, hown, hts, hlk, hK, hI, hZ, hNW, rfl, rfl, rfl, rfl⟩ := h
  intro H locs ls hP hS hl
  exact lv_pop hx hb hd hva (k H locs ls hP hS hl)
theorem R_dup_x1 (h : Cx lay ad X cc own nL lev ret M' v') {va vb : Value} (hva : va.category = 1) (hvb : vb.category = 1) (hd : decode cc pc = .ok (.dup_x1, 1)) (k : Wp lay ad X M (pc + 1) lv (va :: vb :: va :: st)) : Wp lay ad X M pc lv (va :: vb :: st) := by
  obtain ⟨⟨l, D, cA, t⟩, p, e, s, m, args, below, meth, c, nL', lev', Mf, vf⟩ := X
  obtain ⟨hx, hb, hr, hml, hown, hts, hlk, hK, hI, hZ, hNW, rfl, rfl, rfl, rfl⟩ := h
  intro H locs ls hP hS hl
  exact lv_dup_x1 hx hb hd hva hvb (k H locs ls hP hS hl)
theorem R_dup2 (h : Cx lay ad X cc own nL lev ret M' v') {va vb : Value} (hva : va.category = 1) (hvb : vb.category = 1) (hd : decode cc pc = .ok (.dup2, 1)) (k : Wp lay ad X M (pc + 1) lv (va :: vb :: va :: vb :: st)) : Wp lay ad X M pc lv (va :: vb :: st) := by
  obtain ⟨⟨l, D, cA, t⟩, p, e, s, m, args, below, meth, c, nL', lev', Mf, vf⟩ := X
  obtain ⟨hx, hb, hr, hml, hown, hts, hlk, hK, hI, hZ, hNW, rfl, rfl, rfl, rfl⟩ := h
  intro H locs ls hP hS hl
  exact lv_dup2_11 hx hb hd hva hvb (k H locs ls hP hS hl)
theorem R_dup2L (h : Cx lay ad X cc own nL lev ret M' v') {va : Value} (hva : va.category = 2) (hd : decode cc pc = .ok (.dup2, 1)) (k : Wp lay ad X M (pc + 1) lv (va :: va :: st)) : Wp lay ad X M pc lv (va :: st) := by
  obtain ⟨⟨l, D, cA, t⟩, p, e, s, m, args, below, meth, c, nL', lev', Mf, vf⟩ := X
  obtain ⟨hx, hb, hr, hml, hown, hts, hlk, hK, hI, hZ, hNW, rfl, rfl, rfl, rfl⟩ := h
  intro H locs ls hP hS hl
  exact lv_dup2_2 hx hb hd hva (k H locs ls hP hS hl)
theorem R_pop2L (h : Cx lay ad X cc own nL lev ret M' v') {va : Value} (hva : va.category = 2) (hd : decode cc pc = .ok (.pop2, 1)) (k : Wp lay ad X M (pc + 1) lv (st)) : Wp lay ad X M pc lv (va :: st) := by
  obtain ⟨⟨l, D, cA, t⟩, p, e, s, m, args, below, meth, c, nL', lev', Mf, vf⟩ := X
  obtain ⟨hx, hb, hr, hml, hown, hts, hlk, hK, hI, hZ, hNW, rfl, rfl, rfl, rfl⟩ := h
  intro H locs ls hP hS hl
  exact lv_pop2_2 hx hb hd hva (k H locs ls hP hS hl)
theorem R_null (h : Cx lay ad X cc own nL lev ret M' v')  (hd : decode cc pc = .ok (.aconst_null, 1)) (k : Wp lay ad X M (pc + 1) lv (.null :: st)) : Wp lay ad X M pc lv (st) := by
  obtain ⟨⟨l, D, cA, t⟩, p, e, s, m, args, below, meth, c, nL', lev', Mf, vf⟩ := X
  obtain ⟨hx, hb, hr, hml, hown, hts, hlk, hK, hI, hZ, hNW, rfl, rfl, rfl, rfl⟩ := h
  intro H locs ls hP hS hl
  exact lv_null hx hb hd (k H locs ls hP hS hl)
theorem R_lcmp (h : Cx lay ad X cc own nL lev ret M' v') {x y : Int64} (hd : decode cc pc = .ok (.lcmp, 1)) (k : Wp lay ad X M (pc + 1) lv (.int (lg_cmp x y) :: st)) : Wp lay ad X M pc lv (.long y :: .long x :: st) := by
  obtain ⟨⟨l, D, cA, t⟩, p, e, s, m, args, below, meth, c, nL', lev', Mf, vf⟩ := X
  obtain ⟨hx, hb, hr, hml, hown, hts, hlk, hK, hI, hZ, hNW, rfl, rfl, rfl, rfl⟩ := h
  intro H locs ls hP hS hl
  exact W.lcmp hx hb hd (k H locs ls hP hS hl)
theorem R_idiv (h : Cx lay ad X cc own nL lev ret M' v') {x y q : Int32} (hq : dvI x y = some q) (hd : decode cc pc = .ok (.idiv, 1)) (k : Wp lay ad X M (pc + 1) lv (.int q :: st)) : Wp lay ad X M pc lv (.int y :: .int x :: st) := by
  obtain ⟨⟨l, D, cA, t⟩, p, e, s, m, args, below, meth, c, nL', lev', Mf, vf⟩ := X
  obtain ⟨hx, hb, hr, hml, hown, hts, hlk, hK, hI, hZ, hNW, rfl, rfl, rfl, rfl⟩ := h
  intro H locs ls hP hS hl
  unfold dvI at hq
  by_cases c0 : y = 0
  · rw [if_pos c0] at hq; cases hq
  · rw [if_neg c0] at hq; cases hq; exact lv_idiv hx hb hd c0 (k H locs ls hP hS hl)
theorem R_ldiv (h : Cx lay ad X cc own nL lev ret M' v') {x y q : Int64} (hq : dvL x y = some q) (hd : decode cc pc = .ok (.ldiv, 1)) (k : Wp lay ad X M (pc + 1) lv (.long q :: st)) : Wp lay ad X M pc lv (.long y :: .long x :: st) := by
  obtain ⟨⟨l, D, cA, t⟩, p, e, s, m, args, below, meth, c, nL', lev', Mf, vf⟩ := X
  obtain ⟨hx, hb, hr, hml, hown, hts, hlk, hK, hI, hZ, hNW, rfl, rfl, rfl, rfl⟩ := h
  intro H locs ls hP hS hl
  unfold dvL at hq
  by_cases c0 : y = 0
  · rw [if_pos c0] at hq; cases hq
  · rw [if_neg c0] at hq; cases hq; exact lv_ldiv hx hb hd c0 (k H locs ls hP hS hl)
theorem R_irem (h : Cx lay ad X cc own nL lev ret M' v') {x y q : Int32} (hq : rmI x y = some q) (hd : decode cc pc = .ok (.irem, 1)) (k : Wp lay ad X M (pc + 1) lv (.int q :: st)) : Wp lay ad X M pc lv (.int y :: .int x :: st) := by
  obtain ⟨⟨l, D, cA, t⟩, p, e, s, m, args, below, meth, c, nL', lev', Mf, vf⟩ := X
  obtain ⟨hx, hb, hr, hml, hown, hts, hlk, hK, hI, hZ, hNW, rfl, rfl, rfl, rfl⟩ := h
  intro H locs ls hP hS hl
  unfold rmI at hq
  by_cases c0 : y = 0
  · rw [if_pos c0] at hq; cases hq
  · rw [if_neg c0] at hq; cases hq; exact lv_irem hx hb hd c0 (k H locs ls hP hS hl)
theorem R_lrem (h : Cx lay ad X cc own nL lev ret M' v') {x y q : Int64} (hq : rmLo x y = some q) (hd : decode cc pc = .ok (.lrem, 1)) (k : Wp lay ad X M (pc + 1) lv (.long q :: st)) : Wp lay ad X M pc lv (.long y :: .long x :: st) := by
  obtain ⟨⟨l, D, cA, t⟩, p, e, s, m, args, below, meth, c, nL', lev', Mf, vf⟩ := X
  obtain ⟨hx, hb, hr, hml, hown, hts, hlk, hK, hI, hZ, hNW, rfl, rfl, rfl, rfl⟩ := h
  intro H locs ls hP hS hl
  unfold rmLo at hq
  by_cases c0 : y = 0
  · rw [if_pos c0] at hq; cases hq
  · rw [if_neg c0] at hq; cases hq; exact lv_lrem hx hb hd c0 (k H locs ls hP hS hl)
theorem R_iload_n (h : Cx lay ad X cc own nL lev ret M' v') {k : Fin 4} {i : Nat} {x : Int32} (j : Nat) (hi : (k : Nat) = i) (hk : lv[j]? = some (i, .int x)) (hd : decode cc pc = .ok (.iload_n k, 1)) (k : Wp lay ad X M (pc + 1) lv (.int x :: st)) : Wp lay ad X M pc lv (st) := by
  obtain ⟨⟨l, D, cA, t⟩, p, e, s, m, args, below, meth, c, nL', lev', Mf, vf⟩ := X
  obtain ⟨hx, hb, hr, hml, hown, hts, hlk, hK, hI, hZ, hNW, rfl, rfl, rfl, rfl⟩ := h
  intro H locs ls hP hS hl
  exact lv_iload_n hx hb hd hi (lv_at hl j hk) (k H locs ls hP hS hl)
theorem R_iload (h : Cx lay ad X cc own nL lev ret M' v') {i : Nat} {x : Int32} (j : Nat) (hk : lv[j]? = some (i, .int x)) (hd : decode cc pc = .ok (.iload i, 2)) (k : Wp lay ad X M (pc + 2) lv (.int x :: st)) : Wp lay ad X M pc lv (st) := by
  obtain ⟨⟨l, D, cA, t⟩, p, e, s, m, args, below, meth, c, nL', lev', Mf, vf⟩ := X
  obtain ⟨hx, hb, hr, hml, hown, hts, hlk, hK, hI, hZ, hNW, rfl, rfl, rfl, rfl⟩ := h
  intro H locs ls hP hS hl
  exact lv_iload hx hb hd (lv_at hl j hk) (k H locs ls hP hS hl)
theorem R_lload_n (h : Cx lay ad X cc own nL lev ret M' v') {k : Fin 4} {i : Nat} {x : Int64} (j : Nat) (hi : (k : Nat) = i) (hk : lv[j]? = some (i, .long x)) (hd : decode cc pc = .ok (.lload_n k, 1)) (k : Wp lay ad X M (pc + 1) lv (.long x :: st)) : Wp lay ad X M pc lv (st) := by
  obtain ⟨⟨l, D, cA, t⟩, p, e, s, m, args, below, meth, c, nL', lev', Mf, vf⟩ := X
  obtain ⟨hx, hb, hr, hml, hown, hts, hlk, hK, hI, hZ, hNW, rfl, rfl, rfl, rfl⟩ := h
  intro H locs ls hP hS hl
  exact lv_lload_n hx hb hd hi (lv_at hl j hk) (k H locs ls hP hS hl)
theorem R_lload (h : Cx lay ad X cc own nL lev ret M' v') {i : Nat} {x : Int64} (j : Nat) (hk : lv[j]? = some (i, .long x)) (hd : decode cc pc = .ok (.lload i, 2)) (k : Wp lay ad X M (pc + 2) lv (.long x :: st)) : Wp lay ad X M pc lv (st) := by
  obtain ⟨⟨l, D, cA, t⟩, p, e, s, m, args, below, meth, c, nL', lev', Mf, vf⟩ := X
  obtain ⟨hx, hb, hr, hml, hown, hts, hlk, hK, hI, hZ, hNW, rfl, rfl, rfl, rfl⟩ := h
  intro H locs ls hP hS hl
  exact lv_lload hx hb hd (lv_at hl j hk) (k H locs ls hP hS hl)
theorem R_aload_n (h : Cx lay ad X cc own nL lev ret M' v') {k : Fin 4} {i : Nat} {x : Nat} (j : Nat) (hi : (k : Nat) = i) (hk : lv[j]? = some (i, .ref x)) (hd : decode cc pc = .ok (.aload_n k, 1)) (k : Wp lay ad X M (pc + 1) lv (.ref x :: st)) : Wp lay ad X M pc lv (st) := by
  obtain ⟨⟨l, D, cA, t⟩, p, e, s, m, args, below, meth, c, nL', lev', Mf, vf⟩ := X
  obtain ⟨hx, hb, hr, hml, hown, hts, hlk, hK, hI, hZ, hNW, rfl, rfl, rfl, rfl⟩ := h
  intro H locs ls hP hS hl
  exact lv_aload_n hx hb hd hi (lv_at hl j hk) (k H locs ls hP hS hl)
theorem R_aload (h : Cx lay ad X cc own nL lev ret M' v') {i : Nat} {x : Nat} (j : Nat) (hk : lv[j]? = some (i, .ref x)) (hd : decode cc pc = .ok (.aload i, 2)) (k : Wp lay ad X M (pc + 2) lv (.ref x :: st)) : Wp lay ad X M pc lv (st) := by
  obtain ⟨⟨l, D, cA, t⟩, p, e, s, m, args, below, meth, c, nL', lev', Mf, vf⟩ := X
  obtain ⟨hx, hb, hr, hml, hown, hts, hlk, hK, hI, hZ, hNW, rfl, rfl, rfl, rfl⟩ := h
  intro H locs ls hP hS hl
  exact lv_aload hx hb hd (lv_at hl j hk) (k H locs ls hP hS hl)
theorem R_aload_nN (h : Cx lay ad X cc own nL lev ret M' v') {k : Fin 4} {i : Nat} (j : Nat) (hi : (k : Nat) = i) (hk : lv[j]? = some (i, .null)) (hd : decode cc pc = .ok (.aload_n k, 1)) (k : Wp lay ad X M (pc + 1) lv (.null :: st)) : Wp lay ad X M pc lv (st) := by
  obtain ⟨⟨l, D, cA, t⟩, p, e, s, m, args, below, meth, c, nL', lev', Mf, vf⟩ := X
  obtain ⟨hx, hb, hr, hml, hown, hts, hlk, hK, hI, hZ, hNW, rfl, rfl, rfl, rfl⟩ := h
  intro H locs ls hP hS hl
  exact lv_aload_nN hx hb hd hi (lv_at hl j hk) (k H locs ls hP hS hl)
theorem R_aloadN (h : Cx lay ad X cc own nL lev ret M' v') {i : Nat} (j : Nat) (hk : lv[j]? = some (i, .null)) (hd : decode cc pc = .ok (.aload i, 2)) (k : Wp lay ad X M (pc + 2) lv (.null :: st)) : Wp lay ad X M pc lv (st) := by
  obtain ⟨⟨l, D, cA, t⟩, p, e, s, m, args, below, meth, c, nL', lev', Mf, vf⟩ := X
  obtain ⟨hx, hb, hr, hml, hown, hts, hlk, hK, hI, hZ, hNW, rfl, rfl, rfl, rfl⟩ := h
  intro H locs ls hP hS hl
  exact lv_aloadN hx hb hd (lv_at hl j hk) (k H locs ls hP hS hl)
theorem R_istore_n (h : Cx lay ad X cc own nL lev ret M' v') {k : Fin 4} {i : Nat} {x x' : Int32} (he : x' = x) (hi : (k : Nat) = i) (hn : i < nL) (hf : (i, Value.int x') :: lv.filter (fun q => !(q.1 == i) && !(q.1 + 1 == i && q.2.category == 2)) = lv') (hd : decode cc pc = .ok (.istore_n k, 1)) (k : Wp lay ad X M (pc + 1) lv' (st)) : Wp lay ad X M pc lv (.int x :: st) := by
  obtain ⟨⟨l, D, cA, t⟩, p, e, s, m, args, below, meth, c, nL', lev', Mf, vf⟩ := X
  obtain ⟨hx, hb, hr, hml, hown, hts, hlk, hK, hI, hZ, hNW, rfl, rfl, rfl, rfl⟩ := h
  intro H locs ls hP hS hl
  subst he; exact lv_istore_n hx hb hd hi hl hn hf (fun ls' hl' => k H locs ls' hP hS hl')
theorem R_istore (h : Cx lay ad X cc own nL lev ret M' v') {i : Nat} {x x' : Int32} (he : x' = x) (hn : i < nL) (hf : (i, Value.int x') :: lv.filter (fun q => !(q.1 == i) && !(q.1 + 1 == i && q.2.category == 2)) = lv') (hd : decode cc pc = .ok (.istore i, 2)) (k : Wp lay ad X M (pc + 2) lv' (st)) : Wp lay ad X M pc lv (.int x :: st) := by
  obtain ⟨⟨l, D, cA, t⟩, p, e, s, m, args, below, meth, c, nL', lev', Mf, vf⟩ := X
  obtain ⟨hx, hb, hr, hml, hown, hts, hlk, hK, hI, hZ, hNW, rfl, rfl, rfl, rfl⟩ := h
  intro H locs ls hP hS hl
  subst he; exact lv_istore hx hb hd hl hn hf (fun ls' hl' => k H locs ls' hP hS hl')
theorem R_lstore_n (h : Cx lay ad X cc own nL lev ret M' v') {k : Fin 4} {i : Nat} {x x' : Int64} (he : x' = x) (hi : (k : Nat) = i) (hn : i + 1 < nL) (hf : (i, Value.long x') :: lv.filter (fun q => !(q.1 == i) && (!(q.1 == i + 1) && !(q.1 + 1 == i && q.2.category == 2))) = lv') (hd : decode cc pc = .ok (.lstore_n k, 1)) (k : Wp lay ad X M (pc + 1) lv' (st)) : Wp lay ad X M pc lv (.long x :: st) := by
  obtain ⟨⟨l, D, cA, t⟩, p, e, s, m, args, below, meth, c, nL', lev', Mf, vf⟩ := X
  obtain ⟨hx, hb, hr, hml, hown, hts, hlk, hK, hI, hZ, hNW, rfl, rfl, rfl, rfl⟩ := h
  intro H locs ls hP hS hl
  subst he; exact lv_lstore_n hx hb hd hi hl hn hf (fun ls' hl' => k H locs ls' hP hS hl')
theorem R_lstore (h : Cx lay ad X cc own nL lev ret M' v') {i : Nat} {x x' : Int64} (he : x' = x) (hn : i + 1 < nL) (hf : (i, Value.long x') :: lv.filter (fun q => !(q.1 == i) && (!(q.1 == i + 1) && !(q.1 + 1 == i && q.2.category == 2))) = lv') (hd : decode cc pc = .ok (.lstore i, 2)) (k : Wp lay ad X M (pc + 2) lv' (st)) : Wp lay ad X M pc lv (.long x :: st) := by
  obtain ⟨⟨l, D, cA, t⟩, p, e, s, m, args, below, meth, c, nL', lev', Mf, vf⟩ := X
  obtain ⟨hx, hb, hr, hml, hown, hts, hlk, hK, hI, hZ, hNW, rfl, rfl, rfl, rfl⟩ := h
  intro H locs ls hP hS hl
  subst he; exact lv_lstore hx hb hd hl hn hf (fun ls' hl' => k H locs ls' hP hS hl')
theorem R_astore_n (h : Cx lay ad X cc own nL lev ret M' v') {k : Fin 4} {i : Nat} {x x' : Nat} (he : x' = x) (hi : (k : Nat) = i) (hn : i < nL) (hf : (i, Value.ref x') :: lv.filter (fun q => !(q.1 == i) && !(q.1 + 1 == i && q.2.category == 2)) = lv') (hd : decode cc pc = .ok (.astore_n k, 1)) (k : Wp lay ad X M (pc + 1) lv' (st)) : Wp lay ad X M pc lv (.ref x :: st) := by
  obtain ⟨⟨l, D, cA, t⟩, p, e, s, m, args, below, meth, c, nL', lev', Mf, vf⟩ := X
  obtain ⟨hx, hb, hr, hml, hown, hts, hlk, hK, hI, hZ, hNW, rfl, rfl, rfl, rfl⟩ := h
  intro H locs ls hP hS hl
  subst he; exact lv_astore_n hx hb hd hi hl hn hf (fun ls' hl' => k H locs ls' hP hS hl')
theorem R_astore (h : Cx lay ad X cc own nL lev ret M' v') {i : Nat} {x x' : Nat} (he : x' = x) (hn : i < nL) (hf : (i, Value.ref x') :: lv.filter (fun q => !(q.1 == i) && !(q.1 + 1 == i && q.2.category == 2)) = lv') (hd : decode cc pc = .ok (.astore i, 2)) (k : Wp lay ad X M (pc + 2) lv' (st)) : Wp lay ad X M pc lv (.ref x :: st) := by
  obtain ⟨⟨l, D, cA, t⟩, p, e, s, m, args, below, meth, c, nL', lev', Mf, vf⟩ := X
  obtain ⟨hx, hb, hr, hml, hown, hts, hlk, hK, hI, hZ, hNW, rfl, rfl, rfl, rfl⟩ := h
  intro H locs ls hP hS hl
  subst he; exact lv_astore hx hb hd hl hn hf (fun ls' hl' => k H locs ls' hP hS hl')
theorem R_astore_nN (h : Cx lay ad X cc own nL lev ret M' v') {k : Fin 4} {i : Nat} (hi : (k : Nat) = i) (hn : i < nL) (hf : (i, Value.null) :: lv.filter (fun q => !(q.1 == i) && !(q.1 + 1 == i && q.2.category == 2)) = lv') (hd : decode cc pc = .ok (.astore_n k, 1)) (k : Wp lay ad X M (pc + 1) lv' (st)) : Wp lay ad X M pc lv (.null :: st) := by
  obtain ⟨⟨l, D, cA, t⟩, p, e, s, m, args, below, meth, c, nL', lev', Mf, vf⟩ := X
  obtain ⟨hx, hb, hr, hml, hown, hts, hlk, hK, hI, hZ, hNW, rfl, rfl, rfl, rfl⟩ := h
  intro H locs ls hP hS hl
  exact lv_astore_nN hx hb hd hi hl hn hf (fun ls' hl' => k H locs ls' hP hS hl')
theorem R_astoreN (h : Cx lay ad X cc own nL lev ret M' v') {i : Nat} (hn : i < nL) (hf : (i, Value.null) :: lv.filter (fun q => !(q.1 == i) && !(q.1 + 1 == i && q.2.category == 2)) = lv') (hd : decode cc pc = .ok (.astore i, 2)) (k : Wp lay ad X M (pc + 2) lv' (st)) : Wp lay ad X M pc lv (.null :: st) := by
  obtain ⟨⟨l, D, cA, t⟩, p, e, s, m, args, below, meth, c, nL', lev', Mf, vf⟩ := X
  obtain ⟨hx, hb, hr, hml, hown, hts, hlk, hK, hI, hZ, hNW, rfl, rfl, rfl, rfl⟩ := h
  intro H locs ls hP hS hl
  exact lv_astoreN hx hb hd hl hn hf (fun ls' hl' => k H locs ls' hP hS hl')
theorem R_iinc (h : Cx lay ad X cc own nL lev ret M' v') {i : Nat} {n : Int} {x x' v0 : Int32} (j : Nat) (hk : lv[j]? = some (i, .int x)) (hv : Int32.ofInt n = v0) (he : x' = x + v0) (hn : i < nL) (hf : (i, Value.int x') :: lv.filter (fun q => !(q.1 == i) && !(q.1 + 1 == i && q.2.category == 2)) = lv') (hd : decode cc pc = .ok (.iinc i n, 3)) (k : Wp lay ad X M (pc + 3) lv' (st)) : Wp lay ad X M pc lv (st) := by
  obtain ⟨⟨l, D, cA, t⟩, p, e, s, m, args, below, meth, c, nL', lev', Mf, vf⟩ := X
  obtain ⟨hx, hb, hr, hml, hown, hts, hlk, hK, hI, hZ, hNW, rfl, rfl, rfl, rfl⟩ := h
  intro H locs ls hP hS hl
  exact lv_iinc hx hb hd hl hk (by rw [hv]; exact he.symm) hn hf (fun ls' hl' => k H locs ls' hP hS hl')
theorem R_if_eq (h : Cx lay ad X cc own nL lev ret M' v') {x : Int32} {off : Int} {tgt : Nat} (hd : decode cc pc = .ok (.ifCond .eq off, 3)) (ht : (pc : Int) + off = (tgt : Int)) (kt : x = 0 → Wp lay ad X M tgt lv (st)) (kf : ¬ x = 0 → Wp lay ad X M (pc + 3) lv (st)) : Wp lay ad X M pc lv (.int x :: st) := by
  obtain ⟨⟨l, D, cA, t⟩, p, e, s, m, args, below, meth, c, nL', lev', Mf, vf⟩ := X
  obtain ⟨hx, hb, hr, hml, hown, hts, hlk, hK, hI, hZ, hNW, rfl, rfl, rfl, rfl⟩ := h
  intro H locs ls hP hS hl
  exact lv_if_eq hx hb hd ht (fun c => kt c H locs ls hP hS hl) (fun c => kf c H locs ls hP hS hl)
theorem R_icmp_eq (h : Cx lay ad X cc own nL lev ret M' v') {x y : Int32} {off : Int} {tgt : Nat} (hd : decode cc pc = .ok (.if_icmp .eq off, 3)) (ht : (pc : Int) + off = (tgt : Int)) (kt : x = y → Wp lay ad X M tgt lv (st)) (kf : ¬ x = y → Wp lay ad X M (pc + 3) lv (st)) : Wp lay ad X M pc lv (.int y :: .int x :: st) := by
  obtain ⟨⟨l, D, cA, t⟩, p, e, s, m, args, below, meth, c, nL', lev', Mf, vf⟩ := X
  obtain ⟨hx, hb, hr, hml, hown, hts, hlk, hK, hI, hZ, hNW, rfl, rfl, rfl, rfl⟩ := h
  intro H locs ls hP hS hl
  exact lv_icmp_eq hx hb hd ht (fun c => kt c H locs ls hP hS hl) (fun c => kf c H locs ls hP hS hl)
theorem R_if_ne (h : Cx lay ad X cc own nL lev ret M' v') {x : Int32} {off : Int} {tgt : Nat} (hd : decode cc pc = .ok (.ifCond .ne off, 3)) (ht : (pc : Int) + off = (tgt : Int)) (kt : ¬ x = 0 → Wp lay ad X M tgt lv (st)) (kf : x = 0 → Wp lay ad X M (pc + 3) lv (st)) : Wp lay ad X M pc lv (.int x :: st) := by
  obtain ⟨⟨l, D, cA, t⟩, p, e, s, m, args, below, meth, c, nL', lev', Mf, vf⟩ := X
  obtain ⟨hx, hb, hr, hml, hown, hts, hlk, hK, hI, hZ, hNW, rfl, rfl, rfl, rfl⟩ := h
  intro H locs ls hP hS hl
  exact lv_if_ne hx hb hd ht (fun c => kt c H locs ls hP hS hl) (fun c => kf c H locs ls hP hS hl)
theorem R_icmp_ne (h : Cx lay ad X cc own nL lev ret M' v') {x y : Int32} {off : Int} {tgt : Nat} (hd : decode cc pc = .ok (.if_icmp .ne off, 3)) (ht : (pc : Int) + off = (tgt : Int)) (kt : ¬ x = y → Wp lay ad X M tgt lv (st)) (kf : x = y → Wp lay ad X M (pc + 3) lv (st)) : Wp lay ad X M pc lv (.int y :: .int x :: st) := by
  obtain ⟨⟨l, D, cA, t⟩, p, e, s, m, args, below, meth, c, nL', lev', Mf, vf⟩ := X
  obtain ⟨hx, hb, hr, hml, hown, hts, hlk, hK, hI, hZ, hNW, rfl, rfl, rfl, rfl⟩ := h
  intro H locs ls hP hS hl
  exact lv_icmp_ne hx hb hd ht (fun c => kt c H locs ls hP hS hl) (fun c => kf c H locs ls hP hS hl)
theorem R_if_lt (h : Cx lay ad X cc own nL lev ret M' v') {x : Int32} {off : Int} {tgt : Nat} (hd : decode cc pc = .ok (.ifCond .lt off, 3)) (ht : (pc : Int) + off = (tgt : Int)) (kt : x < 0 → Wp lay ad X M tgt lv (st)) (kf : ¬ x < 0 → Wp lay ad X M (pc + 3) lv (st)) : Wp lay ad X M pc lv (.int x :: st) := by
  obtain ⟨⟨l, D, cA, t⟩, p, e, s, m, args, below, meth, c, nL', lev', Mf, vf⟩ := X
  obtain ⟨hx, hb, hr, hml, hown, hts, hlk, hK, hI, hZ, hNW, rfl, rfl, rfl, rfl⟩ := h
  intro H locs ls hP hS hl
  exact lv_if_lt hx hb hd ht (fun c => kt c H locs ls hP hS hl) (fun c => kf c H locs ls hP hS hl)
theorem R_icmp_lt (h : Cx lay ad X cc own nL lev ret M' v') {x y : Int32} {off : Int} {tgt : Nat} (hd : decode cc pc = .ok (.if_icmp .lt off, 3)) (ht : (pc : Int) + off = (tgt : Int)) (kt : x < y → Wp lay ad X M tgt lv (st)) (kf : ¬ x < y → Wp lay ad X M (pc + 3) lv (st)) : Wp lay ad X M pc lv (.int y :: .int x :: st) := by
  obtain ⟨⟨l, D, cA, t⟩, p, e, s, m, args, below, meth, c, nL', lev', Mf, vf⟩ := X
  obtain ⟨hx, hb, hr, hml, hown, hts, hlk, hK, hI, hZ, hNW, rfl, rfl, rfl, rfl⟩ := h
  intro H locs ls hP hS hl
  exact lv_icmp_lt hx hb hd ht (fun c => kt c H locs ls hP hS hl) (fun c => kf c H locs ls hP hS hl)
theorem R_if_ge (h : Cx lay ad X cc own nL lev ret M' v') {x : Int32} {off : Int} {tgt : Nat} (hd : decode cc pc = .ok (.ifCond .ge off, 3)) (ht : (pc : Int) + off = (tgt : Int)) (kt : 0 ≤ x → Wp lay ad X M tgt lv (st)) (kf : ¬ 0 ≤ x → Wp lay ad X M (pc + 3) lv (st)) : Wp lay ad X M pc lv (.int x :: st) := by
  obtain ⟨⟨l, D, cA, t⟩, p, e, s, m, args, below, meth, c, nL', lev', Mf, vf⟩ := X
  obtain ⟨hx, hb, hr, hml, hown, hts, hlk, hK, hI, hZ, hNW, rfl, rfl, rfl, rfl⟩ := h
  intro H locs ls hP hS hl
  exact lv_if_ge hx hb hd ht (fun c => kt c H locs ls hP hS hl) (fun c => kf c H locs ls hP hS hl)
theorem R_icmp_ge (h : Cx lay ad X cc own nL lev ret M' v') {x y : Int32} {off : Int} {tgt : Nat} (hd : decode cc pc = .ok (.if_icmp .ge off, 3)) (ht : (pc : Int) + off = (tgt : Int)) (kt : y ≤ x → Wp lay ad X M tgt lv (st)) (kf : ¬ y ≤ x → Wp lay ad X M (pc + 3) lv (st)) : Wp lay ad X M pc lv (.int y :: .int x :: st) := by
  obtain ⟨⟨l, D, cA, t⟩, p, e, s, m, args, below, meth, c, nL', lev', Mf, vf⟩ := X
  obtain ⟨hx, hb, hr, hml, hown, hts, hlk, hK, hI, hZ, hNW, rfl, rfl, rfl, rfl⟩ := h
  intro H locs ls hP hS hl
  exact lv_icmp_ge hx hb hd ht (fun c => kt c H locs ls hP hS hl) (fun c => kf c H locs ls hP hS hl)
theorem R_if_gt (h : Cx lay ad X cc own nL lev ret M' v') {x : Int32} {off : Int} {tgt : Nat} (hd : decode cc pc = .ok (.ifCond .gt off, 3)) (ht : (pc : Int) + off = (tgt : Int)) (kt : 0 < x → Wp lay ad X M tgt lv (st)) (kf : ¬ 0 < x → Wp lay ad X M (pc + 3) lv (st)) : Wp lay ad X M pc lv (.int x :: st) := by
  obtain ⟨⟨l, D, cA, t⟩, p, e, s, m, args, below, meth, c, nL', lev', Mf, vf⟩ := X
  obtain ⟨hx, hb, hr, hml, hown, hts, hlk, hK, hI, hZ, hNW, rfl, rfl, rfl, rfl⟩ := h
  intro H locs ls hP hS hl
  exact lv_if_gt hx hb hd ht (fun c => kt c H locs ls hP hS hl) (fun c => kf c H locs ls hP hS hl)
theorem R_icmp_gt (h : Cx lay ad X cc own nL lev ret M' v') {x y : Int32} {off : Int} {tgt : Nat} (hd : decode cc pc = .ok (.if_icmp .gt off, 3)) (ht : (pc : Int) + off = (tgt : Int)) (kt : y < x → Wp lay ad X M tgt lv (st)) (kf : ¬ y < x → Wp lay ad X M (pc + 3) lv (st)) : Wp lay ad X M pc lv (.int y :: .int x :: st) := by
  obtain ⟨⟨l, D, cA, t⟩, p, e, s, m, args, below, meth, c, nL', lev', Mf, vf⟩ := X
  obtain ⟨hx, hb, hr, hml, hown, hts, hlk, hK, hI, hZ, hNW, rfl, rfl, rfl, rfl⟩ := h
  intro H locs ls hP hS hl
  exact lv_icmp_gt hx hb hd ht (fun c => kt c H locs ls hP hS hl) (fun c => kf c H locs ls hP hS hl)
theorem R_if_le (h : Cx lay ad X cc own nL lev ret M' v') {x : Int32} {off : Int} {tgt : Nat} (hd : decode cc pc = .ok (.ifCond .le off, 3)) (ht : (pc : Int) + off = (tgt : Int)) (kt : x ≤ 0 → Wp lay ad X M tgt lv (st)) (kf : ¬ x ≤ 0 → Wp lay ad X M (pc + 3) lv (st)) : Wp lay ad X M pc lv (.int x :: st) := by
  obtain ⟨⟨l, D, cA, t⟩, p, e, s, m, args, below, meth, c, nL', lev', Mf, vf⟩ := X
  obtain ⟨hx, hb, hr, hml, hown, hts, hlk, hK, hI, hZ, hNW, rfl, rfl, rfl, rfl⟩ := h
  intro H locs ls hP hS hl
  exact lv_if_le hx hb hd ht (fun c => kt c H locs ls hP hS hl) (fun c => kf c H locs ls hP hS hl)
theorem R_icmp_le (h : Cx lay ad X cc own nL lev ret M' v') {x y : Int32} {off : Int} {tgt : Nat} (hd : decode cc pc = .ok (.if_icmp .le off, 3)) (ht : (pc : Int) + off = (tgt : Int)) (kt : x ≤ y → Wp lay ad X M tgt lv (st)) (kf : ¬ x ≤ y → Wp lay ad X M (pc + 3) lv (st)) : Wp lay ad X M pc lv (.int y :: .int x :: st) := by
  obtain ⟨⟨l, D, cA, t⟩, p, e, s, m, args, below, meth, c, nL', lev', Mf, vf⟩ := X
  obtain ⟨hx, hb, hr, hml, hown, hts, hlk, hK, hI, hZ, hNW, rfl, rfl, rfl, rfl⟩ := h
  intro H locs ls hP hS hl
  exact lv_icmp_le hx hb hd ht (fun c => kt c H locs ls hP hS hl) (fun c => kf c H locs ls hP hS hl)
theorem R_goto (h : Cx lay ad X cc own nL lev ret M' v') {off : Int} {tgt : Nat} (hd : decode cc pc = .ok (.goto off, 3)) (ht : (pc : Int) + off = (tgt : Int)) (k : Wp lay ad X M tgt lv (st)) : Wp lay ad X M pc lv (st) := by
  obtain ⟨⟨l, D, cA, t⟩, p, e, s, m, args, below, meth, c, nL', lev', Mf, vf⟩ := X
  obtain ⟨hx, hb, hr, hml, hown, hts, hlk, hK, hI, hZ, hNW, rfl, rfl, rfl, rfl⟩ := h
  intro H locs ls hP hS hl
  exact lv_goto hx hb hd ht (k H locs ls hP hS hl)
theorem R_ifnonnull (h : Cx lay ad X cc own nL lev ret M' v') {x : Nat} {off : Int} {tgt : Nat} (hd : decode cc pc = .ok (.ifnonnull off, 3)) (ht : (pc : Int) + off = (tgt : Int)) (k : Wp lay ad X M tgt lv (st)) : Wp lay ad X M pc lv (.ref x :: st) := by
  obtain ⟨⟨l, D, cA, t⟩, p, e, s, m, args, below, meth, c, nL', lev', Mf, vf⟩ := X
  obtain ⟨hx, hb, hr, hml, hown, hts, hlk, hK, hI, hZ, hNW, rfl, rfl, rfl, rfl⟩ := h
  intro H locs ls hP hS hl
  exact lv_ifnonnull hx hb hd ht (k H locs ls hP hS hl)
theorem R_ifnull (h : Cx lay ad X cc own nL lev ret M' v') {x : Nat} {off : Int} (hd : decode cc pc = .ok (.ifnull off, 3)) (k : Wp lay ad X M (pc + 3) lv (st)) : Wp lay ad X M pc lv (.ref x :: st) := by
  obtain ⟨⟨l, D, cA, t⟩, p, e, s, m, args, below, meth, c, nL', lev', Mf, vf⟩ := X
  obtain ⟨hx, hb, hr, hml, hown, hts, hlk, hK, hI, hZ, hNW, rfl, rfl, rfl, rfl⟩ := h
  intro H locs ls hP hS hl
  exact lv_ifnull hx hb hd (k H locs ls hP hS hl)
theorem R_ifnullN (h : Cx lay ad X cc own nL lev ret M' v') {off : Int} {tgt : Nat} (hd : decode cc pc = .ok (.ifnull off, 3)) (ht : (pc : Int) + off = (tgt : Int)) (k : Wp lay ad X M tgt lv (st)) : Wp lay ad X M pc lv (.null :: st) := by
  obtain ⟨⟨l, D, cA, t⟩, p, e, s, m, args, below, meth, c, nL', lev', Mf, vf⟩ := X
  obtain ⟨hx, hb, hr, hml, hown, hts, hlk, hK, hI, hZ, hNW, rfl, rfl, rfl, rfl⟩ := h
  intro H locs ls hP hS hl
  exact lv_ifnullN hx hb hd ht (k H locs ls hP hS hl)
theorem R_ifnonnullN (h : Cx lay ad X cc own nL lev ret M' v') {off : Int} (hd : decode cc pc = .ok (.ifnonnull off, 3)) (k : Wp lay ad X M (pc + 3) lv (st)) : Wp lay ad X M pc lv (.null :: st) := by
  obtain ⟨⟨l, D, cA, t⟩, p, e, s, m, args, below, meth, c, nL', lev', Mf, vf⟩ := X
  obtain ⟨hx, hb, hr, hml, hown, hts, hlk, hK, hI, hZ, hNW, rfl, rfl, rfl, rfl⟩ := h
  intro H locs ls hP hS hl
  exact lv_ifnonnullN hx hb hd (k H locs ls hP hS hl)
theorem R_tableIn (h : Cx lay ad X cc own nL lev ret M' v') {dflt lo hi : Int} {offs : Array Int} {len : Nat} {x : Int32} {off : Int} {tgt : Nat} (hd : decode cc pc = .ok (.tableswitch dflt lo hi offs, len)) (h1 : ¬ x.toInt < lo) (h2 : ¬ hi < x.toInt) (ho : offs[(x.toInt - lo).toNat]? = some off) (ht : (pc : Int) + off = (tgt : Int)) (k : Wp lay ad X M tgt lv (st)) : Wp lay ad X M pc lv (.int x :: st) := by
  obtain ⟨⟨l, D, cA, t⟩, p, e, s, m, args, below, meth, c, nL', lev', Mf, vf⟩ := X
  obtain ⟨hx, hb, hr, hml, hown, hts, hlk, hK, hI, hZ, hNW, rfl, rfl, rfl, rfl⟩ := h
  intro H locs ls hP hS hl
  exact lv_tableIn hx hb hd h1 h2 ho ht (k H locs ls hP hS hl)
theorem R_tableOut (h : Cx lay ad X cc own nL lev ret M' v') {dflt lo hi : Int} {offs : Array Int} {len : Nat} {x : Int32} {tgt : Nat} (hd : decode cc pc = .ok (.tableswitch dflt lo hi offs, len)) (ho : x.toInt < lo ∨ hi < x.toInt) (ht : (pc : Int) + dflt = (tgt : Int)) (k : Wp lay ad X M tgt lv (st)) : Wp lay ad X M pc lv (.int x :: st) := by
  obtain ⟨⟨l, D, cA, t⟩, p, e, s, m, args, below, meth, c, nL', lev', Mf, vf⟩ := X
  obtain ⟨hx, hb, hr, hml, hown, hts, hlk, hK, hI, hZ, hNW, rfl, rfl, rfl, rfl⟩ := h
  intro H locs ls hP hS hl
  exact lv_tableOut hx hb hd ho ht (k H locs ls hP hS hl)
theorem R_lookup (h : Cx lay ad X cc own nL lev ret M' v') {dflt : Int} {ps : Array (Int × Int)} {len : Nat} {x : Int32} {off : Int} {tgt : Nat} (hd : decode cc pc = .ok (.lookupswitch dflt ps, len)) (hp : (ps.toList.zip (ps.toList.drop 1)).all (fun (a, next) => a.1 < next.1) = true) (ho : Op.lookupswitch.offset ps.toList dflt x.toInt = off) (ht : (pc : Int) + off = (tgt : Int)) (k : Wp lay ad X M tgt lv (st)) : Wp lay ad X M pc lv (.int x :: st) := by
  obtain ⟨⟨l, D, cA, t⟩, p, e, s, m, args, below, meth, c, nL', lev', Mf, vf⟩ := X
  obtain ⟨hx, hb, hr, hml, hown, hts, hlk, hK, hI, hZ, hNW, rfl, rfl, rfl, rfl⟩ := h
  intro H locs ls hP hS hl
  exact lv_lookup hx hb hd hp ho ht (k H locs ls hP hS hl)
theorem R_ldc (h : Cx lay ad X cc own nL lev ret M' v') {idx : Nat} {v : Int32} (hw : Cond.constant own idx v ∈ lw_good) (hd : decode cc pc = .ok (.ldc idx, 2)) (k : Wp lay ad X M (pc + 2) lv (.int v :: st)) : Wp lay ad X M pc lv (st) := by
  obtain ⟨⟨l, D, cA, t⟩, p, e, s, m, args, below, meth, c, nL', lev', Mf, vf⟩ := X
  obtain ⟨hx, hb, hr, hml, hown, hts, hlk, hK, hI, hZ, hNW, rfl, rfl, rfl, rfl⟩ := h
  intro H locs ls hP hS hl
  exact lv_ldc hx hb hown (hts _ hw) hd (k H locs ls hP hS hl)
theorem R_ldcw (h : Cx lay ad X cc own nL lev ret M' v') {idx : Nat} {v : Int32} (hw : Cond.constant own idx v ∈ lw_good) (hd : decode cc pc = .ok (.ldc_w idx, 3)) (k : Wp lay ad X M (pc + 3) lv (.int v :: st)) : Wp lay ad X M pc lv (st) := by
  obtain ⟨⟨l, D, cA, t⟩, p, e, s, m, args, below, meth, c, nL', lev', Mf, vf⟩ := X
  obtain ⟨hx, hb, hr, hml, hown, hts, hlk, hK, hI, hZ, hNW, rfl, rfl, rfl, rfl⟩ := h
  intro H locs ls hP hS hl
  exact lv_ldcw hx hb hown (hts _ hw) hd (k H locs ls hP hS hl)
theorem R_ldc2 (h : Cx lay ad X cc own nL lev ret M' v') {idx : Nat} {v : Int64} (hw : Cond.constantLong own idx v ∈ lw_good) (hd : decode cc pc = .ok (.ldc2_w idx, 3)) (k : Wp lay ad X M (pc + 3) lv (.long v :: st)) : Wp lay ad X M pc lv (st) := by
  obtain ⟨⟨l, D, cA, t⟩, p, e, s, m, args, below, meth, c, nL', lev', Mf, vf⟩ := X
  obtain ⟨hx, hb, hr, hml, hown, hts, hlk, hK, hI, hZ, hNW, rfl, rfl, rfl, rfl⟩ := h
  intro H locs ls hP hS hl
  exact lv_ldc2 hx hb hown (hts _ hw) hd (k H locs ls hP hS hl)
theorem R_getI (h : Cx lay ad X cc own nL lev ret M' v') {idx ci k0 q0 : Nat} {fs : List Nat} (hf : FL own idx ci k0) (hly : lay[q0]? = some (.inl (ci, fs))) (hk : fs[k0]? = some 0) (hd : decode cc pc = .ok (.getfield idx, 3)) (k : Wp lay ad X M (pc + 3) lv (.int (M.1 q0 k0) :: st)) : Wp lay ad X M pc lv (.ref (ad q0) :: st) := by
  obtain ⟨⟨l, D, cA, t⟩, p, e, s, m, args, below, meth, c, nL', lev', Mf, vf⟩ := X
  obtain ⟨hx, hb, hr, hml, hown, hts, hlk, hK, hI, hZ, hNW, rfl, rfl, rfl, rfl⟩ := h
  intro H locs ls hP hS hl
  obtain ⟨C, T, N, hc, hkN, hin, hlw⟩ := hf
  exact va_get hx hb hts hin hown hK hP q0 (wsOf_get hly) hc k0 hkN (hts _ hlw) (fun _ h9 => h9) (v := .int (M.1 q0 k0)) (by simp [List.getElem?_mapIdx, hk, fv]) hd (k H locs ls hP hS hl)
theorem R_getL (h : Cx lay ad X cc own nL lev ret M' v') {idx ci k0 q0 : Nat} {fs : List Nat} (hf : FL own idx ci k0) (hly : lay[q0]? = some (.inl (ci, fs))) (hk : fs[k0]? = some 1) (hd : decode cc pc = .ok (.getfield idx, 3)) (k : Wp lay ad X M (pc + 3) lv (.long (M.2 q0 k0) :: st)) : Wp lay ad X M pc lv (.ref (ad q0) :: st) := by
  obtain ⟨⟨l, D, cA, t⟩, p, e, s, m, args, below, meth, c, nL', lev', Mf, vf⟩ := X
  obtain ⟨hx, hb, hr, hml, hown, hts, hlk, hK, hI, hZ, hNW, rfl, rfl, rfl, rfl⟩ := h
  intro H locs ls hP hS hl
  obtain ⟨C, T, N, hc, hkN, hin, hlw⟩ := hf
  exact va_get hx hb hts hin hown hK hP q0 (wsOf_get hly) hc k0 hkN (hts _ hlw) (fun _ h9 => h9) (v := .long (M.2 q0 k0)) (by simp [List.getElem?_mapIdx, hk, fv]) hd (k H locs ls hP hS hl)
theorem R_getR (h : Cx lay ad X cc own nL lev ret M' v') {idx ci k0 q0 q1 : Nat} {fs : List Nat} (hf : FL own idx ci k0) (hly : lay[q0]? = some (.inl (ci, fs))) (hk : fs[k0]? = some (q1 + 2)) (hd : decode cc pc = .ok (.getfield idx, 3)) (k : Wp lay ad X M (pc + 3) lv (.ref (ad q1) :: st)) : Wp lay ad X M pc lv (.ref (ad q0) :: st) := by
  obtain ⟨⟨l, D, cA, t⟩, p, e, s, m, args, below, meth, c, nL', lev', Mf, vf⟩ := X
  obtain ⟨hx, hb, hr, hml, hown, hts, hlk, hK, hI, hZ, hNW, rfl, rfl, rfl, rfl⟩ := h
  intro H locs ls hP hS hl
  obtain ⟨C, T, N, hc, hkN, hin, hlw⟩ := hf
  exact va_get hx hb hts hin hown hK hP q0 (wsOf_get hly) hc k0 hkN (hts _ hlw) (fun _ h9 => h9) (v := .ref (ad q1)) (by simp [List.getElem?_mapIdx, hk, fv]) hd (k H locs ls hP hS hl)
theorem R_putI (h : Cx lay ad X cc own nL lev ret M' v') {idx ci k0 q0 : Nat} {fs : List Nat} {x : Int32} {M1 : Mem} (hM : M1 = sI M q0 k0 x) (hf : FP own idx ci k0 .int) (hly : lay[q0]? = some (.inl (ci, fs))) (hk : fs[k0]? = some 0) (hd : decode cc pc = .ok (.putfield idx, 3)) (k : Wp lay ad X M1 (pc + 3) lv (st)) : Wp lay ad X M pc lv (.int x :: .ref (ad q0) :: st) := by
  obtain ⟨⟨l, D, cA, t⟩, p, e, s, m, args, below, meth, c, nL', lev', Mf, vf⟩ := X
  obtain ⟨hx, hb, hr, hml, hown, hts, hlk, hK, hI, hZ, hNW, rfl, rfl, rfl, rfl⟩ := h
  intro H locs ls hP hS hl
  obtain ⟨C, T, N, ty0, hc, hkN, hin, hlw, hty, hnm, hfin, hpf⟩ := hf
  have hlen : k0 < fs.length := (List.getElem?_eq_some_iff.mp hk).1
  refine va_put hx hb hts hin ty0 hty hnm hown hK hP (wsOf_D hI) hS q0 (wsOf_get hly) hc k0 hkN (hts _ hlw) (fun _ h9 => h9) hfin hpf (v := .int x) rfl rfl (by simpa using hlen) hd (fun H1 locs1 hP1 _ hS1 => ?_)
  have e : (wsOf lay ad cA M).set q0 (ad q0, .inr (ci, (fs.mapIdx (fv ad M q0)).set k0 (.int x))) = wsOf lay ad cA M1 := by
    subst hM
    refine wsOf_set hly sI_ne ?_
    show Sum.inr (ci, (fs.mapIdx (fv ad M q0)).set k0 (.int x)) = Sum.inr (ci, fs.mapIdx (fv ad (sI M q0 k0 x) q0))
    rw [put_I hk]
  rw [e] at hP1
  exact k H1 locs1 ls hP1 hS1 hl
theorem R_putL (h : Cx lay ad X cc own nL lev ret M' v') {idx ci k0 q0 : Nat} {fs : List Nat} {x : Int64} {M1 : Mem} (hM : M1 = sL M q0 k0 x) (hf : FP own idx ci k0 .long) (hly : lay[q0]? = some (.inl (ci, fs))) (hk : fs[k0]? = some 1) (hd : decode cc pc = .ok (.putfield idx, 3)) (k : Wp lay ad X M1 (pc + 3) lv (st)) : Wp lay ad X M pc lv (.long x :: .ref (ad q0) :: st) := by
  obtain ⟨⟨l, D, cA, t⟩, p, e, s, m, args, below, meth, c, nL', lev', Mf, vf⟩ := X
  obtain ⟨hx, hb, hr, hml, hown, hts, hlk, hK, hI, hZ, hNW, rfl, rfl, rfl, rfl⟩ := h
  intro H locs ls hP hS hl
  obtain ⟨C, T, N, ty0, hc, hkN, hin, hlw, hty, hnm, hfin, hpf⟩ := hf
  have hlen : k0 < fs.length := (List.getElem?_eq_some_iff.mp hk).1
  refine va_put hx hb hts hin ty0 hty hnm hown hK hP (wsOf_D hI) hS q0 (wsOf_get hly) hc k0 hkN (hts _ hlw) (fun _ h9 => h9) hfin hpf (v := .long x) rfl rfl (by simpa using hlen) hd (fun H1 locs1 hP1 _ hS1 => ?_)
  have e : (wsOf lay ad cA M).set q0 (ad q0, .inr (ci, (fs.mapIdx (fv ad M q0)).set k0 (.long x))) = wsOf lay ad cA M1 := by
    subst hM
    refine wsOf_set hly sL_ne ?_
    show Sum.inr (ci, (fs.mapIdx (fv ad M q0)).set k0 (.long x)) = Sum.inr (ci, fs.mapIdx (fv ad (sL M q0 k0 x) q0))
    rw [put_L hk]
  rw [e] at hP1
  exact k H1 locs1 ls hP1 hS1 hl
theorem R_iald (h : Cx lay ad X cc own nL lev ret M' v') {q0 n : Nat} {i v : Int32} (hrd : rd M q0 n i = some v) (hly : lay[q0]? = some (.inr (.inl (0, n)))) (hd : decode cc pc = .ok (.iaload, 1)) (k : Wp lay ad X M (pc + 1) lv (.int v :: st)) : Wp lay ad X M pc lv (.int i :: .ref (ad q0) :: st) := by
  obtain ⟨⟨l, D, cA, t⟩, p, e, s, m, args, below, meth, c, nL', lev', Mf, vf⟩ := X
  obtain ⟨hx, hb, hr, hml, hown, hts, hlk, hK, hI, hZ, hNW, rfl, rfl, rfl, rfl⟩ := h
  intro H locs ls hP hS hl
  obtain ⟨h1, rfl⟩ := rd_s hrd
  exact va_iald hx hb hK hP q0 0 (wsOf_get hly) rfl h1 hd (k H locs ls hP hS hl)
theorem R_zald (h : Cx lay ad X cc own nL lev ret M' v') {q0 n : Nat} {i v : Int32} (hrd : rd M q0 n i = some v) (hly : lay[q0]? = some (.inr (.inl (1, n)))) (hd : decode cc pc = .ok (.baload, 1)) (k : Wp lay ad X M (pc + 1) lv (.int v :: st)) : Wp lay ad X M pc lv (.int i :: .ref (ad q0) :: st) := by
  obtain ⟨⟨l, D, cA, t⟩, p, e, s, m, args, below, meth, c, nL', lev', Mf, vf⟩ := X
  obtain ⟨hx, hb, hr, hml, hown, hts, hlk, hK, hI, hZ, hNW, rfl, rfl, rfl, rfl⟩ := h
  intro H locs ls hP hS hl
  obtain ⟨h1, rfl⟩ := rd_s hrd
  exact va_zald hx hb hK hP q0 1 (wsOf_get hly) rfl h1 hd (k H locs ls hP hS hl)
theorem R_iast (h : Cx lay ad X cc own nL lev ret M' v') {q0 n : Nat} {i x : Int32} {M1 : Mem} (hw : wr M q0 n i x = some M1) (hly : lay[q0]? = some (.inr (.inl (0, n)))) (hd : decode cc pc = .ok (.iastore, 1)) (k : Wp lay ad X M1 (pc + 1) lv (st)) : Wp lay ad X M pc lv (.int x :: .int i :: .ref (ad q0) :: st) := by
  obtain ⟨⟨l, D, cA, t⟩, p, e, s, m, args, below, meth, c, nL', lev', Mf, vf⟩ := X
  obtain ⟨hx, hb, hr, hml, hown, hts, hlk, hK, hI, hZ, hNW, rfl, rfl, rfl, rfl⟩ := h
  intro H locs ls hP hS hl
  obtain ⟨h1, h2⟩ := wr_s hw
  refine va_iast hx hb hK hP (wsOf_D hI) hS q0 0 (wsOf_get hly) rfl h1 hd (fun H1 locs1 hP1 _ hS1 => ?_)
  have e : (wsOf lay ad cA M).set q0 (ad q0, .inl (cA 0, n, .inl (upd (M.1 q0) i.toNatClampNeg x))) = wsOf lay ad cA M1 := by
    subst h2
    refine wsOf_set hly sI_ne ?_
    simp [cellOf, sI]
  have hP2 : va_P D vwCl (wsOf lay ad cA M1) H1 := by rw [← e]; exact hP1
  exact k H1 locs1 ls hP2 hS1 hl
theorem R_zast (h : Cx lay ad X cc own nL lev ret M' v') {q0 n : Nat} {i x : Int32} {M1 : Mem} (hw : wr M q0 n i (zb x) = some M1) (hly : lay[q0]? = some (.inr (.inl (1, n)))) (hd : decode cc pc = .ok (.bastore, 1)) (k : Wp lay ad X M1 (pc + 1) lv (st)) : Wp lay ad X M pc lv (.int x :: .int i :: .ref (ad q0) :: st) := by
  obtain ⟨⟨l, D, cA, t⟩, p, e, s, m, args, below, meth, c, nL', lev', Mf, vf⟩ := X
  obtain ⟨hx, hb, hr, hml, hown, hts, hlk, hK, hI, hZ, hNW, rfl, rfl, rfl, rfl⟩ := h
  intro H locs ls hP hS hl
  obtain ⟨h1, h2⟩ := wr_s hw
  refine va_zast hx hb hK hP (wsOf_D hI) hS q0 1 (wsOf_get hly) rfl h1 hd (fun H1 locs1 hP1 _ hS1 => ?_)
  have e : (wsOf lay ad cA M).set q0 (ad q0, .inl (cA 1, n, .inl (upd (M.1 q0) i.toNatClampNeg (zb x)))) = wsOf lay ad cA M1 := by
    subst h2
    refine wsOf_set hly sI_ne ?_
    simp [cellOf, sI]
  have hP2 : va_P D vwCl (wsOf lay ad cA M1) H1 := by rw [← e]; exact hP1
  exact k H1 locs1 ls hP2 hS1 hl
theorem R_alen (h : Cx lay ad X cc own nL lev ret M' v') {q0 tt n : Nat} {v : Int32} (hv : Int32.ofNat n = v) (htt : tt < 4) (hly : lay[q0]? = some (.inr (.inl (tt, n)))) (hd : decode cc pc = .ok (.arraylength, 1)) (k : Wp lay ad X M (pc + 1) lv (.int v :: st)) : Wp lay ad X M pc lv (.ref (ad q0) :: st) := by
  obtain ⟨⟨l, D, cA, t⟩, p, e, s, m, args, below, meth, c, nL', lev', Mf, vf⟩ := X
  obtain ⟨hx, hb, hr, hml, hown, hts, hlk, hK, hI, hZ, hNW, rfl, rfl, rfl, rfl⟩ := h
  intro H locs ls hP hS hl
  obtain ⟨ty, hty⟩ : ∃ ty, (tysOf cA)[tt]? = some (cA tt, ty) := by
    rcases (show tt = 0 ∨ tt = 1 ∨ tt = 2 ∨ tt = 3 by omega) with rfl | rfl | rfl | rfl <;> exact ⟨_, rfl⟩
  exact va_alen hx hb hK hP q0 tt (wsOf_get hly) hty hv hd (k H locs ls hP hS hl)
theorem R_alenR (h : Cx lay ad X cc own nL lev ret M' v') {q0 tt : Nat} {qs : List Nat} {v : Int32} (hv : Int32.ofNat qs.length = v) (htt : tt < 4) (hly : lay[q0]? = some (.inr (.inr (tt, qs)))) (hd : decode cc pc = .ok (.arraylength, 1)) (k : Wp lay ad X M (pc + 1) lv (.int v :: st)) : Wp lay ad X M pc lv (.ref (ad q0) :: st) := by
  obtain ⟨⟨l, D, cA, t⟩, p, e, s, m, args, below, meth, c, nL', lev', Mf, vf⟩ := X
  obtain ⟨hx, hb, hr, hml, hown, hts, hlk, hK, hI, hZ, hNW, rfl, rfl, rfl, rfl⟩ := h
  intro H locs ls hP hS hl
  obtain ⟨ty, hty⟩ : ∃ ty, (tysOf cA)[tt]? = some (cA tt, ty) := by
    rcases (show tt = 0 ∨ tt = 1 ∨ tt = 2 ∨ tt = 3 by omega) with rfl | rfl | rfl | rfl <;> exact ⟨_, rfl⟩
  exact va_alen hx hb hK hP q0 tt (wsOf_get hly) hty hv hd (k H locs ls hP hS hl)
theorem R_aald (h : Cx lay ad X cc own nL lev ret M' v') {q0 tt q : Nat} {qs : List Nat} {i : Int32} (hrd : rdR qs i = some q) (htt : tt = 2 ∨ tt = 3) (hly : lay[q0]? = some (.inr (.inr (tt, qs)))) (hd : decode cc pc = .ok (.aaload, 1)) (k : Wp lay ad X M (pc + 1) lv (.ref (ad q) :: st)) : Wp lay ad X M pc lv (.int i :: .ref (ad q0) :: st) := by
  obtain ⟨⟨l, D, cA, t⟩, p, e, s, m, args, below, meth, c, nL', lev', Mf, vf⟩ := X
  obtain ⟨hx, hb, hr, hml, hown, hts, hlk, hK, hI, hZ, hNW, rfl, rfl, rfl, rfl⟩ := h
  intro H locs ls hP hS hl
  obtain ⟨h1, h2⟩ := rdR_s hrd
  have hv : va_rf ((qs[i.toNatClampNeg]?).map ad) = .ref (ad q) := by rw [h2]; rfl
  have k2 := k H locs ls hP hS hl
  rw [← hv] at k2
  rcases htt with rfl | rfl
  · exact va_aldq (C := RX0) (f := fun i => (qs[i]?).map ad) hx hb hK hP q0 2 (wsOf_get hly) rfl h1 hd k2
  · exact va_aldq (C := RX1) (f := fun i => (qs[i]?).map ad) hx hb hK hP q0 3 (wsOf_get hly) rfl h1 hd k2
def tA (X : XX) : Nat := X.1.2.2.2
theorem R_gets (h : Cx lay ad X cc own nL lev ret M' v') {idx : Nat} (hw : Cond.fieldLink own idx "PinDuties" "LETTERS" "[I" ∈ lw_good) (hd : decode cc pc = .ok (.getstatic idx, 3)) (k : Wp lay ad X M (pc + 3) lv (.ref (tA X) :: st)) : Wp lay ad X M pc lv (st) := by
  obtain ⟨⟨l, D, cA, t⟩, p, e, s, m, args, below, meth, c, nL', lev', Mf, vf⟩ := X
  obtain ⟨hx, hb, hr, hml, hown, hts, hlk, hK, hI, hZ, hNW, rfl, rfl, rfl, rfl⟩ := h
  intro H locs ls hP hS hl
  exact va_gets hx hb hZ.1 hS hown (hts _ hw) (fun _ h9 => h9) hd (k H locs ls hP hS hl)
theorem R_tld (h : Cx lay ad X cc own nL lev ret M' v') {i v : Int32} (hrd : rdT i = some v) (hd : decode cc pc = .ok (.iaload, 1)) (k : Wp lay ad X M (pc + 1) lv (.int v :: st)) : Wp lay ad X M pc lv (.int i :: .ref (tA X) :: st) := by
  obtain ⟨⟨l, D, cA, t⟩, p, e, s, m, args, below, meth, c, nL', lev', Mf, vf⟩ := X
  obtain ⟨hx, hb, hr, hml, hown, hts, hlk, hK, hI, hZ, hNW, rfl, rfl, rfl, rfl⟩ := h
  intro H locs ls hP hS hl
  have h1 : vp_in i 6 ∧ v = letF i.toNatClampNeg := by
    unfold rdT at hrd
    by_cases c0 : i < 0 ∨ 6 ≤ i.toNatClampNeg
    · rw [if_pos c0] at hrd; cases hrd
    · rw [if_neg c0] at hrd; cases hrd; exact ⟨c0, rfl⟩
  obtain ⟨h1, rfl⟩ := h1
  exact va_ti hx hb hZ.2 hS h1 rfl hd (k H locs ls hP hS hl)
theorem R_mmax (h : Cx lay ad X cc own nL lev ret M' v') {idx : Nat} {x y : Int32} (hw : Cond.methodLink own idx Lib.Math.max.name ∈ lw_good ∧ Cond.static Lib.Math.max.name ∈ lw_good ∧ Cond.initialized "java/lang/Math" ∈ lw_good ∧ Cond.code Lib.Math.max.name Lib.Math.max.code 2 (some .int) ∈ lw_good) (hlv : 1 ≤ lev) (hst : (st.map fun v => v.category).sum + 13 ≤ 50) (hd : decode cc pc = .ok (.invokestatic idx, 3)) (k : Wp lay ad X M (pc + 3) lv (.int (if x < y then y else x) :: st)) : Wp lay ad X M pc lv (.int y :: .int x :: st) := by
  obtain ⟨⟨l, D, cA, t⟩, p, e, s, m, args, below, meth, c, nL', lev', Mf, vf⟩ := X
  obtain ⟨hx, hb, hr, hml, hown, hts, hlk, hK, hI, hZ, hNW, rfl, rfl, rfl, rfl⟩ := h
  intro H locs ls hP hS hl
  have hrl : (st.map fun v => v.category).sum + 13 ≤ (rmL lev').locals := Nat.le_trans hst (by show 50 ≤ 50 * lev'; omega)
  exact va_mmax hx hb (by rw [hml]; exact hl.1.symm) hown (hts _ hw.1) (hts _ hw.2.1) (hts _ hw.2.2.1) (hts _ hw.2.2.2) hlv hrl (Nat.le_refl _) (Nat.le_refl _) hd (k H locs ls hP hS hl)
theorem R_mmin (h : Cx lay ad X cc own nL lev ret M' v') {idx : Nat} {x y : Int32} (hw : Cond.methodLink own idx Lib.Math.min.name ∈ lw_good ∧ Cond.static Lib.Math.min.name ∈ lw_good ∧ Cond.initialized "java/lang/Math" ∈ lw_good ∧ Cond.code Lib.Math.min.name Lib.Math.min.code 2 (some .int) ∈ lw_good) (hlv : 1 ≤ lev) (hst : (st.map fun v => v.category).sum + 13 ≤ 50) (hd : decode cc pc = .ok (.invokestatic idx, 3)) (k : Wp lay ad X M (pc + 3) lv (.int (if y < x then y else x) :: st)) : Wp lay ad X M pc lv (.int y :: .int x :: st) := by
  obtain ⟨⟨l, D, cA, t⟩, p, e, s, m, args, below, meth, c, nL', lev', Mf, vf⟩ := X
  obtain ⟨hx, hb, hr, hml, hown, hts, hlk, hK, hI, hZ, hNW, rfl, rfl, rfl, rfl⟩ := h
  intro H locs ls hP hS hl
  have hrl : (st.map fun v => v.category).sum + 13 ≤ (rmL lev').locals := Nat.le_trans hst (by show 50 ≤ 50 * lev'; omega)
  exact va_mmin hx hb (by rw [hml]; exact hl.1.symm) hown (hts _ hw.1) (hts _ hw.2.1) (hts _ hw.2.2.1) (hts _ hw.2.2.2) hlv hrl (Nat.le_refl _) (Nat.le_refl _) hd (k H locs ls hP hS hl)
theorem R_mabs (h : Cx lay ad X cc own nL lev ret M' v') {idx : Nat} {x y : Int32} (hw : Cond.methodLink own idx Lib.Math.abs.name ∈ lw_good ∧ Cond.static Lib.Math.abs.name ∈ lw_good ∧ Cond.initialized "java/lang/Math" ∈ lw_good ∧ Cond.code Lib.Math.abs.name Lib.Math.abs.code 1 (some .int) ∈ lw_good) (hlv : 1 ≤ lev) (hst : (st.map fun v => v.category).sum + 13 ≤ 50) (hd : decode cc pc = .ok (.invokestatic idx, 3)) (k : Wp lay ad X M (pc + 3) lv (.int (if 0 ≤ x then x else 0 - x) :: st)) : Wp lay ad X M pc lv (.int x :: st) := by
  obtain ⟨⟨l, D, cA, t⟩, p, e, s, m, args, below, meth, c, nL', lev', Mf, vf⟩ := X
  obtain ⟨hx, hb, hr, hml, hown, hts, hlk, hK, hI, hZ, hNW, rfl, rfl, rfl, rfl⟩ := h
  intro H locs ls hP hS hl
  have hrl : (st.map fun v => v.category).sum + 13 ≤ (rmL lev').locals := Nat.le_trans hst (by show 50 ≤ 50 * lev'; omega)
  exact va_mabs hx hb (by rw [hml]; exact hl.1.symm) hown (hts _ hw.1) (hts _ hw.2.1) (hts _ hw.2.2.1) (hts _ hw.2.2.2) hlv hrl (Nat.le_refl _) (Nat.le_refl _) hd (k H locs ls hP hS hl)
theorem R_copyi (h : Cx lay ad X cc own nL lev ret M' v') {idx p0 n0 p1 n1 : Nat} {sp dp n : Int32} {M1 : Mem} (hw : Cond.methodLink own idx arraycopyName ∈ lw_good ∧ Cond.native arraycopyName ∈ lw_good ∧ Cond.static arraycopyName ∈ lw_good ∧ Cond.initialized "java/lang/System" ∈ lw_good) (hc : cpy M p0 n0 sp p1 n1 dp n = some M1) (hl0 : lay[p0]? = some (.inr (.inl (0, n0)))) (hl1 : lay[p1]? = some (.inr (.inl (0, n1)))) (hlv : 2 ≤ lev) (hst : st = []) (hd : decode cc pc = .ok (.invokestatic idx, 3)) (k : Wp lay ad X M1 (pc + 3) lv (st)) : Wp lay ad X M pc lv (.int n :: .int dp :: .ref (ad p1) :: .int sp :: .ref (ad p0) :: st) := by
  obtain ⟨⟨l, D, cA, t⟩, p, e, s, m, args, below, meth, c, nL', lev', Mf, vf⟩ := X
  obtain ⟨hx, hb, hr, hml, hown, hts, hlk, hK, hI, hZ, hNW, rfl, rfl, rfl, rfl⟩ := h
  intro H locs ls hP hS hl
  subst hst
  unfold cpy at hc
  by_cases c0 : sp < 0 ∨ dp < 0 ∨ n < 0 ∨ n0 < sp.toNatClampNeg + n.toNatClampNeg ∨ n1 < dp.toNatClampNeg + n.toNatClampNeg
  · rw [if_pos c0] at hc; cases hc
  · rw [if_neg c0] at hc
    have c1 : ¬ sp < 0 := fun q => c0 (Or.inl q)
    have c2 : ¬ dp < 0 := fun q => c0 (Or.inr (Or.inl q))
    have c3 : ¬ n < 0 := fun q => c0 (Or.inr (Or.inr (Or.inl q)))
    have c4 : sp.toNatClampNeg + n.toNatClampNeg ≤ n0 := Nat.not_lt.mp fun q => c0 (Or.inr (Or.inr (Or.inr (Or.inl q))))
    have c5 : dp.toNatClampNeg + n.toNatClampNeg ≤ n1 := Nat.not_lt.mp fun q => c0 (Or.inr (Or.inr (Or.inr (Or.inr q))))
    refine va_copyi hx hb (by rw [hml]; exact hl.1.symm) hown (hts _ hw.1) (hts _ hw.2.1) (hts _ hw.2.2.1) (hts _ hw.2.2.2) hK hP (wsOf_D hI) hS p0 p1 0 0 (wsOf_get hl0) (wsOf_get hl1) (ty := .int) rfl rfl rfl c1 c2 c3 c4 c5 (fun _ _ => rfl) (by show 1 ≤ lev'; omega) (copy_room hlv) hd (fun H1 locs1 hP1 _ hS1 => ?_)
    have e : (wsOf lay ad cA M).set p1 (ad p1, .inl (cA 0, n1, .inl (va_cpy (M.1 p0) (M.1 p1) sp.toNatClampNeg dp.toNatClampNeg n.toNatClampNeg))) = wsOf lay ad cA M1 := by
      cases hc
      refine wsOf_set hl1 sF_ne ?_
      simp [cellOf, sF]
    have hP2 : va_P D vwCl (wsOf lay ad cA M1) H1 := by rw [← e]; exact hP1
    exact k H1 locs1 ls hP2 hS1 hl
theorem wp_call {p : Program} {l : Launch} {e : Env} {R : Room} {s : State} {m : MethodId} {args : Array Value} {below : List Frame} {meth : Method} {c : Code} {H : Heap} {locs : List Loc} {Q : State → Prop} {ls : Array Slot} {rest st0 : List Value} {a : Array Value} {z : ZZ} {M1 : Mem} {v : Option Value}
    (hr : va_Run p l e R s m args below meth c H locs 0 0 0 0 (F0 m pc ls st0) rest (QQ lay ad z M1 v a) (AA lay ad)) (hS : va_S (AA lay ad) s.heap H locs)
    (kk : ∀ (H1 : Heap) (locs1 : List Loc), va_P z.2.1 vwCl (wsOf lay ad z.2.2.1 M1) H1 → va_S (AA lay ad) s.heap H1 locs1 → W p l e R s m args below meth c H1 locs1 0 0 Q (F0 m (pc + 3) ls (v.toList ++ rest))) : W p l e R s m args below meth c H locs 0 0 Q (F0 m pc ls st0) := by
  intro T hT X
  obtain ⟨v1, st₀, t, T', L, h0, X', hL, e1, e2, ⟨hv, hp, hz, hk⟩, st⟩ := hr T hT X
  cases hv
  rw [h0] at hz hk
  obtain ⟨t2, a1, b1⟩ := kk T'.heap (locs ++ L) (by rw [e1]; exact hp)
    ⟨Nat.le_trans hS.1 (by rw [e1]; exact hz), fun q h1 h2 => by rw [e1, hk q (Nat.lt_of_lt_of_le h1 hS.1) h2]; exact hS.2.1 q h1 h2, fun q hq => by
      rcases List.mem_append.mp hq with h | h
      · exact hS.2.2 q h
      · exact hL q h⟩ T' rfl X'
  exact ⟨t2, st t2 a1, b1⟩
theorem R_callV (h : Cx lay ad X cc own nL lev ret M' v') {idx n lev2 : Nat} {y : MethodName} {bytes : ByteArray} {maxL : Nat} {rt : Option FieldType} {M1 : Mem} {v : Option Value} {st0 : List Value} (As : List Value) {ci q0 : Nat} {fs : List Nat} (hw : CV own idx y bytes maxL rt n ci) (hc : Con lay ad X.1 y bytes maxL rt lev2 M (.ref (ad q0) :: As) M1 v) (hs0 : st0 = As.reverse ++ .ref (ad q0) :: st) (hn : As.length = n) (hly : lay[q0]? = some (.inl (ci, fs))) (hlv : lev2 + 1 ≤ lev) (hmx : maxL ≤ 30) (hst : (st.map fun v => v.category).sum ≤ 8) (hd : decode cc pc = .ok (.invokevirtual idx, 3)) {st1 : List Value} (h1 : v.toList ++ st = st1) (k : Wp lay ad X M1 (pc + 3) lv (st1)) : Wp lay ad X M pc lv (st0) := by
  obtain ⟨⟨l, D, cA, t⟩, p, e, s, m, args, below, meth, c, nL', lev', Mf, vf⟩ := X
  obtain ⟨hx, hb, hr, hml, hown, hts, hlk, hK, hI, hZ, hNW, rfl, rfl, rfl, rfl⟩ := h
  intro H locs ls hP hS hl
  subst hs0; subst h1
  obtain ⟨w1, w2, w3, w4, w5, w6, T, N, hvc⟩ := hw
  exact wp_call (va_runV (C := y.cls) (As := As) (rest := st) ⟨hx, hb, hml, hown, hts⟩ hc ⟨callB_of n hts (good_wsC w5) rfl rfl rfl (hts _ w4) (hts _ w1) w6 ⟨by show lev2 + 1 ≤ lev'; omega, by show 8 + (maxL + 11) + 50 * lev2 ≤ 50 * lev'; omega⟩, hts _ w2, hts _ w3⟩ ⟨PP_blind, va_recv hK hP (ci := ci) (q0 := q0) hvc (wsOf_get hly), fun U hU hW => ⟨rfl, by rw [hU]; exact hP, va_K.moved hW.alike hK, hI, by rw [hU]; exact SI.moved hW.alike (hZ.kept hS.2.1), NW.warm hW hNW⟩⟩ rfl hn hl.1 rfl (lv_room hst) hd ⟨Nat.le_refl _, Nat.le_refl _⟩) hS (fun H1 locs1 hP1 hS1 => k H1 locs1 ls hP1 hS1 hl)
theorem R_callS (h : Cx lay ad X cc own nL lev ret M' v') {idx n lev2 : Nat} {y : MethodName} {bytes : ByteArray} {maxL : Nat} {rt : Option FieldType} {M1 : Mem} {v : Option Value} {st0 : List Value} (As : List Value) (hw : CS own idx y bytes maxL rt n) (hc : Con lay ad X.1 y bytes maxL rt lev2 M As M1 v) (hs0 : st0 = As.reverse ++ st) (hn : As.length = n) (hlv : lev2 + 1 ≤ lev) (hmx : maxL ≤ 30) (hst : (st.map fun v => v.category).sum ≤ 8) (hd : decode cc pc = .ok (.invokestatic idx, 3)) {st1 : List Value} (h1 : v.toList ++ st = st1) (k : Wp lay ad X M1 (pc + 3) lv (st1)) : Wp lay ad X M pc lv (st0) := by
  obtain ⟨⟨l, D, cA, t⟩, p, e, s, m, args, below, meth, c, nL', lev', Mf, vf⟩ := X
  obtain ⟨hx, hb, hr, hml, hown, hts, hlk, hK, hI, hZ, hNW, rfl, rfl, rfl, rfl⟩ := h
  intro H locs ls hP hS hl
  subst hs0; subst h1
  obtain ⟨w1, w2, w4, w5, w6⟩ := hw
  exact wp_call (va_runS (As := As) (rest := st) ⟨hx, hb, hml, hown, hts⟩ hc ⟨callB_of n hts (good_wsC w5) rfl rfl rfl (hts _ w4) (hts _ w1) w6 ⟨by show lev2 + 1 ≤ lev'; omega, by show 8 + (maxL + 11) + 50 * lev2 ≤ 50 * lev'; omega⟩, hts _ w2⟩ ⟨PP_blind, fun U hU hW => ⟨rfl, by rw [hU]; exact hP, va_K.moved hW.alike hK, hI, by rw [hU]; exact SI.moved hW.alike (hZ.kept hS.2.1), NW.warm hW hNW⟩⟩ rfl hn hl.1 rfl (lv_room hst) hd ⟨Nat.le_refl _, Nat.le_refl _⟩) hS (fun H1 locs1 hP1 hS1 => k H1 locs1 ls hP1 hS1 hl)
theorem R_callN (h : Cx lay ad X cc own nL lev ret M' v') {idx n lev2 : Nat} {y : MethodName} {bytes : ByteArray} {maxL : Nat} {rt : Option FieldType} {M1 : Mem} {v : Option Value} {st0 : List Value} (As : List Value) {host : String} (hw : CN own idx y host bytes maxL rt n) (hc : Con lay ad X.1 y bytes maxL rt lev2 M As M1 v) (hs0 : st0 = As.reverse ++ st) (hn : As.length = n) (hlv : lev2 + 1 ≤ lev) (hmx : maxL ≤ 30) (hst : (st.map fun v => v.category).sum ≤ 8) (hd : decode cc pc = .ok (.invokestatic idx, 3)) {st1 : List Value} (h1 : v.toList ++ st = st1) (k : Wp lay ad X M1 (pc + 3) lv (st1)) : Wp lay ad X M pc lv (st0) := by
  obtain ⟨⟨l, D, cA, t⟩, p, e, s, m, args, below, meth, c, nL', lev', Mf, vf⟩ := X
  obtain ⟨hx, hb, hr, hml, hown, hts, hlk, hK, hI, hZ, hNW, rfl, rfl, rfl, rfl⟩ := h
  intro H locs ls hP hS hl
  subst hs0; subst h1
  obtain ⟨w1, w2, w4, w5, w6⟩ := hw
  exact wp_call (va_runSN (As := As) (rest := st) ⟨hx, hb, hml, hown, hts⟩ hc ⟨va_cnB n hts (good_wsC w5) rfl rfl rfl (hNW _ w1) (hts _ w4) w6 ⟨by show lev2 + 1 ≤ lev'; omega, by show 8 + (maxL + 11) + 50 * lev2 ≤ 50 * lev'; omega⟩, hts _ w2, trivial⟩ ⟨PP_blind, fun U hU hW => ⟨rfl, by rw [hU]; exact hP, va_K.moved hW.alike hK, hI, by rw [hU]; exact SI.moved hW.alike (hZ.kept hS.2.1), NW.warm hW hNW⟩⟩ rfl hn hl.1 rfl (lv_room hst) hd ⟨Nat.le_refl _, Nat.le_refl _⟩) hS (fun H1 locs1 hP1 hS1 => k H1 locs1 ls hP1 hS1 hl)
theorem R_ireturn (h : Cx lay ad X cc own nL lev ret M' v') {v : Int32} (hre : ret = some .int) (hM : M = M') (hv : some (Value.int v) = v') (hd : decode cc pc = .ok (.ireturn, 1)) : Wp lay ad X M pc lv (.int v :: []) := by
  obtain ⟨⟨l, D, cA, t⟩, p, e, s, m, args, below, meth, c, nL', lev', Mf, vf⟩ := X
  obtain ⟨hx, hb, hr, hml, hown, hts, hlk, hK, hI, hZ, hNW, rfl, rfl, rfl, rfl⟩ := h
  intro H locs ls hP hS hl
  subst hM; subst hv
  exact W.iret hx hb (by rw [hr]; exact hre) (fun t ht hW => ⟨rfl, by rw [ht]; exact hP, hS.F ht⟩) hS.2.2 hd
theorem R_zreturn (h : Cx lay ad X cc own nL lev ret M' v') {v w : Int32} (hre : ret = some .boolean) (hz : zr v = some w) (hM : M = M') (hv : some (Value.int w) = v') (hd : decode cc pc = .ok (.ireturn, 1)) : Wp lay ad X M pc lv (.int v :: []) := by
  obtain ⟨⟨l, D, cA, t⟩, p, e, s, m, args, below, meth, c, nL', lev', Mf, vf⟩ := X
  obtain ⟨hx, hb, hr, hml, hown, hts, hlk, hK, hI, hZ, hNW, rfl, rfl, rfl, rfl⟩ := h
  intro H locs ls hP hS hl
  have hw : v = w ∧ narrow .boolean (.int v) = .int v := by
    unfold zr at hz
    by_cases c0 : v = 0 ∨ v = 1
    · rw [if_pos c0] at hz
      cases hz
      exact ⟨rfl, by rcases c0 with rfl | rfl <;> rfl⟩
    · rw [if_neg c0] at hz; cases hz
  obtain ⟨rfl, hnn⟩ := hw
  subst hM; subst hv
  exact W.zret hx hb (by rw [hr]; exact hre) hnn (fun t ht hW => ⟨rfl, by rw [ht]; exact hP, hS.F ht⟩) hS.2.2 hd
theorem R_lreturn (h : Cx lay ad X cc own nL lev ret M' v') {v : Int64} (hre : ret = some .long) (hM : M = M') (hv : some (Value.long v) = v') (hd : decode cc pc = .ok (.lreturn, 1)) : Wp lay ad X M pc lv (.long v :: []) := by
  obtain ⟨⟨l, D, cA, t⟩, p, e, s, m, args, below, meth, c, nL', lev', Mf, vf⟩ := X
  obtain ⟨hx, hb, hr, hml, hown, hts, hlk, hK, hI, hZ, hNW, rfl, rfl, rfl, rfl⟩ := h
  intro H locs ls hP hS hl
  subst hM; subst hv
  exact W.lret hx hb (by rw [hr]; exact hre) (fun t ht hW => ⟨rfl, by rw [ht]; exact hP, hS.F ht⟩) hS.2.2 hd
theorem R_return (h : Cx lay ad X cc own nL lev ret M' v') (hre : ret = none) (hM : M = M') (hv : none = v') (hd : decode cc pc = .ok (.return_, 1)) : Wp lay ad X M pc lv ([]) := by
  obtain ⟨⟨l, D, cA, t⟩, p, e, s, m, args, below, meth, c, nL', lev', Mf, vf⟩ := X
  obtain ⟨hx, hb, hr, hml, hown, hts, hlk, hK, hI, hZ, hNW, rfl, rfl, rfl, rfl⟩ := h
  intro H locs ls hP hS hl
  subst hM; subst hv
  exact W.vret hx hb (by rw [hr]; exact hre) (fun t ht hW => ⟨rfl, by rw [ht]; exact hP, hS.F ht⟩) hS.2.2 hd
theorem R_areturn (h : Cx lay ad X cc own nL lev ret M' v') {v : Value} {C : String} (hre : ret = some (.object C)) (hva : v = .null ∨ ∃ a, v = .ref a) (hM : M = M') (hv : some v = v') (hd : decode cc pc = .ok (.areturn, 1)) : Wp lay ad X M pc lv (v :: []) := by
  obtain ⟨⟨l, D, cA, t⟩, p, e, s, m, args, below, meth, c, nL', lev', Mf, vf⟩ := X
  obtain ⟨hx, hb, hr, hml, hown, hts, hlk, hK, hI, hZ, hNW, rfl, rfl, rfl, rfl⟩ := h
  intro H locs ls hP hS hl
  subst hM; subst hv
  exact W.aret hx hb (by rw [hr]; exact hre) (Or.inl ⟨C, rfl⟩) hva (fun t ht hW => ⟨rfl, by rw [ht]; exact hP, hS.F ht⟩) hS.2.2 hd
end RULES
end
section
abbrev cX0_init : ByteArray := prog_2_method_1_code
def yX0_init : MethodName := ⟨RX0, "<init>", "()V"⟩
abbrev cX0_isMissing : ByteArray := prog_2_method_2_code
def yX0_isMissing : MethodName := ⟨RX0, "isMissing", "()Z"⟩
abbrev cX0_hasCell : ByteArray := prog_2_method_3_code
def yX0_hasCell : MethodName := ⟨RX0, "hasCell", "(I)Z"⟩
abbrev cX0_hasRun : ByteArray := prog_2_method_4_code
def yX0_hasRun : MethodName := ⟨RX0, "hasRun", "(II)Z"⟩
abbrev cX0_cellAt : ByteArray := prog_2_method_5_code
def yX0_cellAt : MethodName := ⟨RX0, "cellAt", "(I)I"⟩
abbrev cX0_setCell : ByteArray := prog_2_method_6_code
def yX0_setCell : MethodName := ⟨RX0, "setCell", "(II)V"⟩
abbrev cX0_begin : ByteArray := prog_2_method_7_code
def yX0_begin : MethodName := ⟨RX0, "begin", "(II)V"⟩
abbrev cX0_append : ByteArray := prog_2_method_8_code
def yX0_append : MethodName := ⟨RX0, "append", "(I)V"⟩
abbrev cX0_placesOf : ByteArray := prog_2_method_9_code
def yX0_placesOf : MethodName := ⟨RX0, "placesOf", "(I)I"⟩
abbrev cX0_digestFrom : ByteArray := prog_2_method_10_code
def yX0_digestFrom : MethodName := ⟨RX0, "digestFrom", "(J)J"⟩
abbrev cX1_init : ByteArray := prog_3_method_1_code
def yX1_init : MethodName := ⟨RX1, "<init>", "()V"⟩
abbrev cX1_takeOver : ByteArray := prog_3_method_2_code
def yX1_takeOver : MethodName := ⟨RX1, "takeOver", "(LPinDuties$Deeds;)V"⟩
abbrev cX2_init : ByteArray := prog_4_method_1_code
def yX2_init : MethodName := ⟨RX2, "<init>", "()V"⟩
abbrev cX2_has : ByteArray := prog_4_method_2_code
def yX2_has : MethodName := ⟨RX2, "has", "(I)Z"⟩
abbrev cX2_hoursOf : ByteArray := prog_4_method_3_code
def yX2_hoursOf : MethodName := ⟨RX2, "hoursOf", "(I)I"⟩
abbrev cX2_sumOf : ByteArray := prog_4_method_4_code
def yX2_sumOf : MethodName := ⟨RX2, "sumOf", "(I)I"⟩
abbrev cX2_isApart : ByteArray := prog_4_method_5_code
def yX2_isApart : MethodName := ⟨RX2, "isApart", "(I)Z"⟩
abbrev cX2_mostOf : ByteArray := prog_4_method_6_code
def yX2_mostOf : MethodName := ⟨RX2, "mostOf", "(I)I"⟩
abbrev cX2_isSet : ByteArray := prog_4_method_7_code
def yX2_isSet : MethodName := ⟨RX2, "isSet", "(I)Z"⟩
abbrev cX2_all : ByteArray := prog_4_method_8_code
def yX2_all : MethodName := ⟨RX2, "all", "()I"⟩
abbrev cX2_read : ByteArray := prog_4_method_9_code
def yX2_read : MethodName := ⟨RX2, "read", "(LPinDuties$Cells;)V"⟩
abbrev cX2_takeSign : ByteArray := prog_4_method_10_code
def yX2_takeSign : MethodName := ⟨RX2, "takeSign", "(II)V"⟩
abbrev cX2_reckonSetsTo : ByteArray := prog_4_method_11_code
def yX2_reckonSetsTo : MethodName := ⟨RX2, "reckonSetsTo", "(I)V"⟩
abbrev cX2_valueAs : ByteArray := prog_4_method_12_code
def yX2_valueAs : MethodName := ⟨RX2, "valueAs", "(III)I"⟩
abbrev cX2_apartFrom : ByteArray := prog_4_method_13_code
def yX2_apartFrom : MethodName := ⟨RX2, "apartFrom", "(I)I"⟩
abbrev cX2_leastOfMost : ByteArray := prog_4_method_14_code
def yX2_leastOfMost : MethodName := ⟨RX2, "leastOfMost", "(I)I"⟩
abbrev cX2_orderInto : ByteArray := prog_4_method_15_code
def yX2_orderInto : MethodName := ⟨RX2, "orderInto", "(LPinDuties$Cells;I)V"⟩
abbrev cX2_countOfKind : ByteArray := prog_4_method_16_code
def yX2_countOfKind : MethodName := ⟨RX2, "countOfKind", "(I)I"⟩
abbrev cX2_greatestPart : ByteArray := prog_4_method_17_code
def yX2_greatestPart : MethodName := ⟨RX2, "greatestPart", "(III)I"⟩
abbrev cX3_init : ByteArray := prog_5_method_1_code
def yX3_init : MethodName := ⟨RX3, "<init>", "()V"⟩
abbrev cX3_lying : ByteArray := prog_5_method_2_code
def yX3_lying : MethodName := ⟨RX3, "lying", "()I"⟩
abbrev cX3_lyingHere : ByteArray := prog_5_method_3_code
def yX3_lyingHere : MethodName := ⟨RX3, "lyingHere", "()I"⟩
abbrev cX3_hasRoomFor : ByteArray := prog_5_method_4_code
def yX3_hasRoomFor : MethodName := ⟨RX3, "hasRoomFor", "(I)Z"⟩
abbrev cX3_enact : ByteArray := prog_5_method_5_code
def yX3_enact : MethodName := ⟨RX3, "enact", "(I)V"⟩
abbrev cX3_goBackTo : ByteArray := prog_5_method_6_code
def yX3_goBackTo : MethodName := ⟨RX3, "goBackTo", "(I)V"⟩
abbrev cX3_change : ByteArray := prog_5_method_7_code
def yX3_change : MethodName := ⟨RX3, "change", "(I)V"⟩
abbrev cX3_deedByLot : ByteArray := prog_5_method_8_code
def yX3_deedByLot : MethodName := ⟨RX3, "deedByLot", "(J)I"⟩
abbrev cX3_lowest : ByteArray := prog_5_method_9_code
def yX3_lowest : MethodName := ⟨RX3, "lowest", "(I)I"⟩
abbrev cX3_highest : ByteArray := prog_5_method_10_code
def yX3_highest : MethodName := ⟨RX3, "highest", "(I)I"⟩
abbrev cX3_stepsBy : ByteArray := prog_5_method_11_code
def yX3_stepsBy : MethodName := ⟨RX3, "stepsBy", "(II)I"⟩
abbrev cX3_stepsFor : ByteArray := prog_5_method_12_code
def yX3_stepsFor : MethodName := ⟨RX3, "stepsFor", "(I)I"⟩
abbrev cX3_tellPin : ByteArray := prog_5_method_13_code
def yX3_tellPin : MethodName := ⟨RX3, "tellPin", "(II)I"⟩
abbrev cX4_init : ByteArray := prog_1_method_1_code
def yX4_init : MethodName := ⟨RX4, "<init>", "()V"⟩
abbrev cX4_row : ByteArray := prog_1_method_2_code
def yX4_row : MethodName := ⟨RX4, "row", "(II)I"⟩
abbrev cX4_lay : ByteArray := prog_1_method_3_code
def yX4_lay : MethodName := ⟨RX4, "lay", "(III)I"⟩
abbrev cX4_at : ByteArray := prog_1_method_4_code
def yX4_at : MethodName := ⟨RX4, "at", "(II)I"⟩
abbrev cX4_tear : ByteArray := prog_1_method_5_code
def yX4_tear : MethodName := ⟨RX4, "tear", "(I)I"⟩
abbrev cX4_copy : ByteArray := prog_1_method_6_code
def yX4_copy : MethodName := ⟨RX4, "copy", "(IIIII)I"⟩
abbrev cX4_mean : ByteArray := prog_1_method_7_code
def yX4_mean : MethodName := ⟨RX4, "mean", "(I)I"⟩
abbrev cX4_text : ByteArray := prog_1_method_8_code
def yX4_text : MethodName := ⟨RX4, "text", "(II)I"⟩
abbrev cX4_put : ByteArray := prog_1_method_9_code
def yX4_put : MethodName := ⟨RX4, "put", "(III)I"⟩
abbrev cX4_fault : ByteArray := prog_1_method_10_code
def yX4_fault : MethodName := ⟨RX4, "fault", "(I)I"⟩
abbrev cX4_street : ByteArray := prog_1_method_11_code
def yX4_street : MethodName := ⟨RX4, "street", "(I)I"⟩
abbrev cX4_pin : ByteArray := prog_1_method_12_code
def yX4_pin : MethodName := ⟨RX4, "pin", "(II)I"⟩
abbrev cX4_mark : ByteArray := prog_1_method_13_code
def yX4_mark : MethodName := ⟨RX4, "mark", "(II)I"⟩
abbrev cX4_worth : ByteArray := prog_1_method_14_code
def yX4_worth : MethodName := ⟨RX4, "worth", "(II)I"⟩
abbrev cX4_step : ByteArray := prog_1_method_15_code
def yX4_step : MethodName := ⟨RX4, "step", "(I)I"⟩
abbrev cX4_pick : ByteArray := prog_1_method_16_code
def yX4_pick : MethodName := ⟨RX4, "pick", "(I)I"⟩
abbrev cX4_drop : ByteArray := prog_1_method_17_code
def yX4_drop : MethodName := ⟨RX4, "drop", "(I)I"⟩
abbrev cX4_sweep : ByteArray := prog_1_method_18_code
def yX4_sweep : MethodName := ⟨RX4, "sweep", "()I"⟩
abbrev cX4_undo : ByteArray := prog_1_method_19_code
def yX4_undo : MethodName := ⟨RX4, "undo", "(I)I"⟩
abbrev cX4_keep : ByteArray := prog_1_method_20_code
def yX4_keep : MethodName := ⟨RX4, "keep", "(I)I"⟩
abbrev cX4_on : ByteArray := prog_1_method_21_code
def yX4_on : MethodName := ⟨RX4, "on", "(I)I"⟩
abbrev cX4_busy : ByteArray := prog_1_method_22_code
def yX4_busy : MethodName := ⟨RX4, "busy", "()I"⟩
abbrev cX4_clashes : ByteArray := prog_1_method_23_code
def yX4_clashes : MethodName := ⟨RX4, "clashes", "()I"⟩
abbrev cX4_least : ByteArray := prog_1_method_24_code
def yX4_least : MethodName := ⟨RX4, "least", "()I"⟩
abbrev cX4_best : ByteArray := prog_1_method_25_code
def yX4_best : MethodName := ⟨RX4, "best", "(I)I"⟩
abbrev cX4_walk : ByteArray := prog_1_method_26_code
def yX4_walk : MethodName := ⟨RX4, "walk", "(I)I"⟩
abbrev cX4_within : ByteArray := prog_1_method_27_code
def yX4_within : MethodName := ⟨RX4, "within", "(I)I"⟩
abbrev cX4_whose : ByteArray := prog_1_method_28_code
def yX4_whose : MethodName := ⟨RX4, "whose", "(I)I"⟩
abbrev cX4_kinds : ByteArray := prog_1_method_29_code
def yX4_kinds : MethodName := ⟨RX4, "kinds", "(II)I"⟩
abbrev cX4_test : ByteArray := prog_1_method_30_code
def yX4_test : MethodName := ⟨RX4, "test", "(II)I"⟩
abbrev cX4_lucks : ByteArray := prog_1_method_31_code
def yX4_lucks : MethodName := ⟨RX4, "lucks", "(II)I"⟩
abbrev cX4_duel : ByteArray := prog_1_method_32_code
def yX4_duel : MethodName := ⟨RX4, "duel", "(I)I"⟩
abbrev cX4_odds : ByteArray := prog_1_method_33_code
def yX4_odds : MethodName := ⟨RX4, "odds", "(II)I"⟩
abbrev cX4_mid : ByteArray := prog_1_method_34_code
def yX4_mid : MethodName := ⟨RX4, "mid", "(I)I"⟩
abbrev cX4_lots : ByteArray := prog_1_method_35_code
def yX4_lots : MethodName := ⟨RX4, "lots", "(II)I"⟩
abbrev cX4_asked : ByteArray := prog_1_method_36_code
def yX4_asked : MethodName := ⟨RX4, "asked", "()I"⟩
abbrev cX4_upper : ByteArray := prog_1_method_37_code
def yX4_upper : MethodName := ⟨RX4, "upper", "()J"⟩
abbrev cX4_lower : ByteArray := prog_1_method_38_code
def yX4_lower : MethodName := ⟨RX4, "lower", "()J"⟩
abbrev cX4_count : ByteArray := prog_1_method_39_code
def yX4_count : MethodName := ⟨RX4, "count", "(I)I"⟩
abbrev cX4_finding : ByteArray := prog_1_method_40_code
def yX4_finding : MethodName := ⟨RX4, "finding", "()I"⟩
abbrev cX4_findings : ByteArray := prog_1_method_41_code
def yX4_findings : MethodName := ⟨RX4, "findings", "(I)I"⟩
abbrev cX4_digest : ByteArray := prog_1_method_42_code
def yX4_digest : MethodName := ⟨RX4, "digest", "()J"⟩
abbrev cX4_rowAt : ByteArray := prog_1_method_43_code
def yX4_rowAt : MethodName := ⟨RX4, "rowAt", "(I)LPinDuties$Cells;"⟩
abbrev cX4_textAt : ByteArray := prog_1_method_44_code
def yX4_textAt : MethodName := ⟨RX4, "textAt", "(I)LPinDuties$Cells;"⟩
abbrev cX4_keptAt : ByteArray := prog_1_method_45_code
def yX4_keptAt : MethodName := ⟨RX4, "keptAt", "(I)LPinDuties$Deeds;"⟩
abbrev cX4_find : ByteArray := prog_1_method_46_code
def yX4_find : MethodName := ⟨RX4, "find", "(I)I"⟩
abbrev cX4_makeCells : ByteArray := prog_1_method_47_code
def yX4_makeCells : MethodName := ⟨RX4, "makeCells", "(LPinDuties$Cells;III)I"⟩
abbrev cX4_refuseMissing : ByteArray := prog_1_method_48_code
def yX4_refuseMissing : MethodName := ⟨RX4, "refuseMissing", "(LPinDuties$Cells;)I"⟩
abbrev cX4_refusePlace : ByteArray := prog_1_method_49_code
def yX4_refusePlace : MethodName := ⟨RX4, "refusePlace", "(LPinDuties$Cells;I)I"⟩
abbrev cX4_refusePairs : ByteArray := prog_1_method_50_code
def yX4_refusePairs : MethodName := ⟨RX4, "refusePairs", "(II)I"⟩
abbrev cX4_kindsBy : ByteArray := prog_1_method_51_code
def yX4_kindsBy : MethodName := ⟨RX4, "kindsBy", "(ILPinDuties$Cells;)I"⟩
abbrev cX4_countWhose : ByteArray := prog_1_method_52_code
def yX4_countWhose : MethodName := ⟨RX4, "countWhose", "(II)I"⟩
abbrev cX4_countOf : ByteArray := prog_1_method_53_code
def yX4_countOf : MethodName := ⟨RX4, "countOf", "(I)I"⟩
abbrev cX4_countThere : ByteArray := prog_1_method_54_code
def yX4_countThere : MethodName := ⟨RX4, "countThere", "([LPinDuties$Cells;)I"⟩
abbrev cX4_countKept : ByteArray := prog_1_method_55_code
def yX4_countKept : MethodName := ⟨RX4, "countKept", "()I"⟩
abbrev cX4_weigh : ByteArray := prog_1_method_56_code
def yX4_weigh : MethodName := ⟨RX4, "weigh", "(III)J"⟩
abbrev cX4_power : ByteArray := prog_1_method_57_code
def yX4_power : MethodName := ⟨RX4, "power", "(JI)J"⟩
abbrev cX4_tellFraction : ByteArray := prog_1_method_58_code
def yX4_tellFraction : MethodName := ⟨RX4, "tellFraction", "(JJ)V"⟩
abbrev cX4_gainByTurns : ByteArray := prog_1_method_59_code
def yX4_gainByTurns : MethodName := ⟨RX4, "gainByTurns", "(LPinDuties$Pins;IIII)I"⟩
abbrev cX4_isLuck : ByteArray := prog_1_method_60_code
def yX4_isLuck : MethodName := ⟨RX4, "isLuck", "(I)Z"⟩
abbrev cX4_isWorth : ByteArray := prog_1_method_61_code
def yX4_isWorth : MethodName := ⟨RX4, "isWorth", "(I)Z"⟩
abbrev cX4_isOf : ByteArray := prog_1_method_62_code
def yX4_isOf : MethodName := ⟨RX4, "isOf", "(II)Z"⟩
abbrev cX4_kindOfLetter : ByteArray := prog_1_method_63_code
def yX4_kindOfLetter : MethodName := ⟨RX4, "kindOfLetter", "(I)I"⟩
abbrev cX4_firstFault : ByteArray := prog_1_method_64_code
def yX4_firstFault : MethodName := ⟨RX4, "firstFault", "(LPinDuties$Cells;)I"⟩
abbrev cX4_isSign : ByteArray := prog_1_method_65_code
def yX4_isSign : MethodName := ⟨RX4, "isSign", "(II)Z"⟩
abbrev cX5_init : ByteArray := prog_7_method_1_code
def yX5_init : MethodName := ⟨RX5, "<init>", "()V"⟩
abbrev cX5_in : ByteArray := prog_7_method_3_code
def yX5_in : MethodName := ⟨RX5, "in", "(JJJ)Z"⟩
abbrev cX5_has : ByteArray := prog_7_method_4_code
def yX5_has : MethodName := ⟨RX5, "has", "(II)Z"⟩
abbrev cX5_bits : ByteArray := prog_7_method_5_code
def yX5_bits : MethodName := ⟨RX5, "bits", "(I)I"⟩
abbrev cX5_found : ByteArray := prog_7_method_6_code
def yX5_found : MethodName := ⟨RX5, "found", "(I)I"⟩
abbrev cX5_tell : ByteArray := prog_7_method_7_code
def yX5_tell : MethodName := ⟨RX5, "tell", "(I)I"⟩
abbrev cX5_answer : ByteArray := prog_7_method_8_code
def yX5_answer : MethodName := ⟨RX5, "answer", "(II)I"⟩
abbrev cX5_isRow : ByteArray := prog_7_method_9_code
def yX5_isRow : MethodName := ⟨RX5, "isRow", "(I)Z"⟩
abbrev cX5_isText : ByteArray := prog_7_method_10_code
def yX5_isText : MethodName := ⟨RX5, "isText", "(I)Z"⟩
abbrev cX5_row : ByteArray := prog_7_method_11_code
def yX5_row : MethodName := ⟨RX5, "row", "(II)I"⟩
abbrev cX5_lay : ByteArray := prog_7_method_12_code
def yX5_lay : MethodName := ⟨RX5, "lay", "(III)I"⟩
abbrev cX5_at : ByteArray := prog_7_method_13_code
def yX5_at : MethodName := ⟨RX5, "at", "(II)I"⟩
abbrev cX5_tear : ByteArray := prog_7_method_14_code
def yX5_tear : MethodName := ⟨RX5, "tear", "(I)I"⟩
abbrev cX5_copy : ByteArray := prog_7_method_15_code
def yX5_copy : MethodName := ⟨RX5, "copy", "(IIIII)I"⟩
abbrev cX5_mean : ByteArray := prog_7_method_16_code
def yX5_mean : MethodName := ⟨RX5, "mean", "(I)I"⟩
abbrev cX5_text : ByteArray := prog_7_method_17_code
def yX5_text : MethodName := ⟨RX5, "text", "(II)I"⟩
abbrev cX5_put : ByteArray := prog_7_method_18_code
def yX5_put : MethodName := ⟨RX5, "put", "(III)I"⟩
abbrev cX5_copies : ByteArray := prog_7_method_19_code
def yX5_copies : MethodName := ⟨RX5, "copies", "([II[III)V"⟩
abbrev cX5_forgets : ByteArray := prog_7_method_20_code
def yX5_forgets : MethodName := ⟨RX5, "forgets", "()V"⟩
abbrev cX5_here : ByteArray := prog_7_method_21_code
def yX5_here : MethodName := ⟨RX5, "here", "()I"⟩
abbrev cX5_kindOf : ByteArray := prog_7_method_22_code
def yX5_kindOf : MethodName := ⟨RX5, "kindOf", "(I)I"⟩
abbrev cX5_isFigure : ByteArray := prog_7_method_23_code
def yX5_isFigure : MethodName := ⟨RX5, "isFigure", "(II)Z"⟩
abbrev cX5_skips : ByteArray := prog_7_method_24_code
def yX5_skips : MethodName := ⟨RX5, "skips", "()V"⟩
abbrev cX5_readsPin : ByteArray := prog_7_method_25_code
def yX5_readsPin : MethodName := ⟨RX5, "readsPin", "()Z"⟩
abbrev cX5_reads : ByteArray := prog_7_method_26_code
def yX5_reads : MethodName := ⟨RX5, "reads", "(I)I"⟩
abbrev cX5_fault : ByteArray := prog_7_method_27_code
def yX5_fault : MethodName := ⟨RX5, "fault", "(I)I"⟩
abbrev cX5_street : ByteArray := prog_7_method_28_code
def yX5_street : MethodName := ⟨RX5, "street", "(I)I"⟩
abbrev cX5_isPin : ByteArray := prog_7_method_29_code
def yX5_isPin : MethodName := ⟨RX5, "isPin", "(I)Z"⟩
abbrev cX5_lies : ByteArray := prog_7_method_30_code
def yX5_lies : MethodName := ⟨RX5, "lies", "(I)Z"⟩
abbrev cX5_those : ByteArray := prog_7_method_31_code
def yX5_those : MethodName := ⟨RX5, "those", "(I)I"⟩
abbrev cX5_hoursOf : ByteArray := prog_7_method_32_code
def yX5_hoursOf : MethodName := ⟨RX5, "hoursOf", "(I)I"⟩
abbrev cX5_worthBy : ByteArray := prog_7_method_33_code
def yX5_worthBy : MethodName := ⟨RX5, "worthBy", "(III)I"⟩
abbrev cX5_worthOf : ByteArray := prog_7_method_34_code
def yX5_worthOf : MethodName := ⟨RX5, "worthOf", "(I)I"⟩
abbrev cX5_worthAll : ByteArray := prog_7_method_35_code
def yX5_worthAll : MethodName := ⟨RX5, "worthAll", "(I)I"⟩
abbrev cX5_hoursAll : ByteArray := prog_7_method_36_code
def yX5_hoursAll : MethodName := ⟨RX5, "hoursAll", "(IZ)I"⟩
abbrev cX5_clash : ByteArray := prog_7_method_37_code
def yX5_clash : MethodName := ⟨RX5, "clash", "(I)Z"⟩
abbrev cX5_pin : ByteArray := prog_7_method_38_code
def yX5_pin : MethodName := ⟨RX5, "pin", "(II)I"⟩
abbrev cX5_isOf : ByteArray := prog_7_method_39_code
def yX5_isOf : MethodName := ⟨RX5, "isOf", "(II)Z"⟩
abbrev cX5_mark : ByteArray := prog_7_method_40_code
def yX5_mark : MethodName := ⟨RX5, "mark", "(II)I"⟩
abbrev cX5_worth : ByteArray := prog_7_method_41_code
def yX5_worth : MethodName := ⟨RX5, "worth", "(II)I"⟩
abbrev cX5_refuses : ByteArray := prog_7_method_42_code
def yX5_refuses : MethodName := ⟨RX5, "refuses", "(I)I"⟩
abbrev cX5_remember : ByteArray := prog_7_method_43_code
def yX5_remember : MethodName := ⟨RX5, "remember", "()V"⟩
abbrev cX5_step : ByteArray := prog_7_method_44_code
def yX5_step : MethodName := ⟨RX5, "step", "(I)I"⟩
abbrev cX5_pick : ByteArray := prog_7_method_45_code
def yX5_pick : MethodName := ⟨RX5, "pick", "(I)I"⟩
abbrev cX5_drop : ByteArray := prog_7_method_46_code
def yX5_drop : MethodName := ⟨RX5, "drop", "(I)I"⟩
abbrev cX5_sweep : ByteArray := prog_7_method_47_code
def yX5_sweep : MethodName := ⟨RX5, "sweep", "()I"⟩
abbrev cX5_undo : ByteArray := prog_7_method_48_code
def yX5_undo : MethodName := ⟨RX5, "undo", "(I)I"⟩
abbrev cX5_keep : ByteArray := prog_7_method_49_code
def yX5_keep : MethodName := ⟨RX5, "keep", "(I)I"⟩
abbrev cX5_on : ByteArray := prog_7_method_50_code
def yX5_on : MethodName := ⟨RX5, "on", "(I)I"⟩
abbrev cX5_busy : ByteArray := prog_7_method_51_code
def yX5_busy : MethodName := ⟨RX5, "busy", "()I"⟩
abbrev cX5_clashes : ByteArray := prog_7_method_52_code
def yX5_clashes : MethodName := ⟨RX5, "clashes", "()I"⟩
abbrev cX5_least : ByteArray := prog_7_method_53_code
def yX5_least : MethodName := ⟨RX5, "least", "()I"⟩
abbrev cX5_bestOf : ByteArray := prog_7_method_54_code
def yX5_bestOf : MethodName := ⟨RX5, "bestOf", "(I)I"⟩
abbrev cX5_best : ByteArray := prog_7_method_55_code
def yX5_best : MethodName := ⟨RX5, "best", "(I)I"⟩
abbrev cX5_far : ByteArray := prog_7_method_56_code
def yX5_far : MethodName := ⟨RX5, "far", "(II)I"⟩
abbrev cX5_steps : ByteArray := prog_7_method_57_code
def yX5_steps : MethodName := ⟨RX5, "steps", "(I)I"⟩
abbrev cX5_walk : ByteArray := prog_7_method_58_code
def yX5_walk : MethodName := ⟨RX5, "walk", "(I)I"⟩
abbrev cX5_within : ByteArray := prog_7_method_59_code
def yX5_within : MethodName := ⟨RX5, "within", "(I)I"⟩
abbrev cX5_whose : ByteArray := prog_7_method_60_code
def yX5_whose : MethodName := ⟨RX5, "whose", "(I)I"⟩
abbrev cX5_refusesPairs : ByteArray := prog_7_method_61_code
def yX5_refusesPairs : MethodName := ⟨RX5, "refusesPairs", "(I)I"⟩
abbrev cX5_kindsOf : ByteArray := prog_7_method_62_code
def yX5_kindsOf : MethodName := ⟨RX5, "kindsOf", "(II)I"⟩
abbrev cX5_kinds : ByteArray := prog_7_method_63_code
def yX5_kinds : MethodName := ⟨RX5, "kinds", "(II)I"⟩
abbrev cX5_test : ByteArray := prog_7_method_64_code
def yX5_test : MethodName := ⟨RX5, "test", "(II)I"⟩
abbrev cX5_lucks : ByteArray := prog_7_method_65_code
def yX5_lucks : MethodName := ⟨RX5, "lucks", "(II)I"⟩
abbrev cX5_played : ByteArray := prog_7_method_66_code
def yX5_played : MethodName := ⟨RX5, "played", "(II)I"⟩
abbrev cX5_duel : ByteArray := prog_7_method_67_code
def yX5_duel : MethodName := ⟨RX5, "duel", "(I)I"⟩
abbrev cX5_laysBests : ByteArray := prog_7_method_68_code
def yX5_laysBests : MethodName := ⟨RX5, "laysBests", "()V"⟩
abbrev cX5_fraction : ByteArray := prog_7_method_69_code
def yX5_fraction : MethodName := ⟨RX5, "fraction", "(JJ)I"⟩
abbrev cX5_ways : ByteArray := prog_7_method_70_code
def yX5_ways : MethodName := ⟨RX5, "ways", "(II)J"⟩
abbrev cX5_allWays : ByteArray := prog_7_method_71_code
def yX5_allWays : MethodName := ⟨RX5, "allWays", "()J"⟩
abbrev cX5_odds : ByteArray := prog_7_method_72_code
def yX5_odds : MethodName := ⟨RX5, "odds", "(II)I"⟩
abbrev cX5_mid : ByteArray := prog_7_method_73_code
def yX5_mid : MethodName := ⟨RX5, "mid", "(I)I"⟩
abbrev cX5_lot : ByteArray := prog_7_method_74_code
def yX5_lot : MethodName := ⟨RX5, "lot", "(I)V"⟩
abbrev cX5_lots : ByteArray := prog_7_method_75_code
def yX5_lots : MethodName := ⟨RX5, "lots", "(II)I"⟩
abbrev cX5_asked : ByteArray := prog_7_method_76_code
def yX5_asked : MethodName := ⟨RX5, "asked", "()I"⟩
abbrev cX5_upper : ByteArray := prog_7_method_77_code
def yX5_upper : MethodName := ⟨RX5, "upper", "()J"⟩
abbrev cX5_lower : ByteArray := prog_7_method_78_code
def yX5_lower : MethodName := ⟨RX5, "lower", "()J"⟩
abbrev cX5_there : ByteArray := prog_7_method_79_code
def yX5_there : MethodName := ⟨RX5, "there", "([III)I"⟩
abbrev cX5_ofKind : ByteArray := prog_7_method_80_code
def yX5_ofKind : MethodName := ⟨RX5, "ofKind", "(I)I"⟩
abbrev cX5_count : ByteArray := prog_7_method_81_code
def yX5_count : MethodName := ⟨RX5, "count", "(I)I"⟩
abbrev cX5_finding : ByteArray := prog_7_method_82_code
def yX5_finding : MethodName := ⟨RX5, "finding", "()I"⟩
abbrev cX5_findings : ByteArray := prog_7_method_83_code
def yX5_findings : MethodName := ⟨RX5, "findings", "(I)I"⟩
abbrev cX5_digest : ByteArray := prog_7_method_84_code
def yX5_digest : MethodName := ⟨RX5, "digest", "()J"⟩
abbrev cJ6_bitCount_0f7a4 : ByteArray := prog_8_method_49_code
def yJ6_bitCount_0f7a4 : MethodName := ⟨"java/lang/Integer", "bitCount", "(I)I"⟩
def layC : List Kd := [.inl (0, [0, 12]), .inl (0, [0, 13]), .inl (0, [0, 14]), .inl (0, [0, 15]), .inl (0, [0, 16]), .inl (0, [0, 17]), .inl (0, [0, 18]), .inl (0, [0, 19]), .inl (0, [0, 20]), .inl (0, [0, 21]), .inr (.inl (0, 60)), .inr (.inl (0, 60)), .inr (.inl (0, 60)), .inr (.inl (0, 60)), .inr (.inl (0, 60)), .inr (.inl (0, 60)), .inr (.inl (0, 60)), .inr (.inl (0, 60)), .inr (.inl (0, 60)), .inr (.inl (0, 60)), .inl (1, [0, 26]), .inl (1, [0, 27]), .inl (1, [0, 28]), .inl (1, [0, 29]), .inr (.inl (0, 40)), .inr (.inl (0, 40)), .inr (.inl (0, 40)), .inr (.inl (0, 40)), .inl (4, [31, 32, 33, 35, 34, 0, 0, 1, 1]), .inr (.inr (2, [0, 1, 2, 3, 4, 5])), .inr (.inr (2, [6, 7, 8, 9])), .inr (.inr (3, [20, 21, 22])), .inr (.inl (0, 6)), .inl (3, [37, 25, 0, 0, 0, 36]), .inr (.inl (0, 8)), .inl (2, [0, 38, 39, 40, 41, 42, 43, 44, 45, 46, 47, 48]), .inr (.inl (0, 8)), .inr (.inl (0, 8)), .inr (.inl (0, 8)), .inr (.inl (0, 8)), .inr (.inl (0, 8)), .inr (.inl (0, 8)), .inr (.inl (0, 8)), .inr (.inl (0, 256)), .inr (.inl (0, 256)), .inr (.inl (1, 256)), .inr (.inl (0, 256))]
def layM : List Kd := [.inl (5, [3, 4, 5, 6, 0, 1, 1, 0, 7, 0, 8, 9, 10, 11, 12, 13, 0, 14, 0, 0, 0, 0, 0, 15, 0, 16, 17]), .inr (.inl (0, 240)), .inr (.inl (0, 6)), .inr (.inl (0, 240)), .inr (.inl (0, 4)), .inr (.inl (0, 6)), .inr (.inl (0, 8)), .inr (.inl (0, 8)), .inr (.inl (0, 8)), .inr (.inl (0, 8)), .inr (.inl (0, 9)), .inr (.inl (0, 360)), .inr (.inl (0, 1110)), .inr (.inl (0, 40)), .inr (.inl (0, 6561)), .inr (.inl (0, 256))]
theorem lyCells {p : Nat} (h : p < 10) : layC[p]? = some (.inl (0, [0, p + 10 + 2])) := by
  have h1 : p = 0 ∨ p = 1 ∨ p = 2 ∨ p = 3 ∨ p = 4 ∨ p = 5 ∨ p = 6 ∨ p = 7 ∨ p = 8 ∨ p = 9 := by omega
  rcases h1 with rfl | rfl | rfl | rfl | rfl | rfl | rfl | rfl | rfl | rfl <;> rfl
theorem lyCellsA {p : Nat} (h : p < 10) : layC[p + 10]? = some (.inr (.inl (0, 60))) := by
  have h1 : p = 0 ∨ p = 1 ∨ p = 2 ∨ p = 3 ∨ p = 4 ∨ p = 5 ∨ p = 6 ∨ p = 7 ∨ p = 8 ∨ p = 9 := by omega
  rcases h1 with rfl | rfl | rfl | rfl | rfl | rfl | rfl | rfl | rfl | rfl <;> rfl
theorem lyDeeds {p : Nat} (h : 20 ≤ p ∧ p < 24) : layC[p]? = some (.inl (1, [0, p + 4 + 2])) := by
  have h1 : p = 20 ∨ p = 21 ∨ p = 22 ∨ p = 23 := by omega
  rcases h1 with rfl | rfl | rfl | rfl <;> rfl
theorem lyDeedsA {p : Nat} (h : 20 ≤ p ∧ p < 24) : layC[p + 4]? = some (.inr (.inl (0, 40))) := by
  have h1 : p = 20 ∨ p = 21 ∨ p = 22 ∨ p = 23 := by omega
  rcases h1 with rfl | rfl | rfl | rfl <;> rfl
def oc {β : Type} (o : Option Nat) (a : β) (k : Nat → β) : β := match o with | none => a | some q => k q
theorem oc_n {β : Type} {a r : β} {k : Nat → β} (h : oc none a k = r) : a = r := h
theorem oc_s {β : Type} {a r : β} {k : Nat → β} {q : Nat} (h : oc (some q) a k = r) : k q = r := h
theorem lc_28 : layC[28]? = some (.inl (4, [31, 32, 33, 35, 34, 0, 0, 1, 1])) := rfl
theorem flX4_11 : FL RX4 11 4 0 := ⟨RX4, TX4, 9, rfl, by decide, inX4, good_at 188 (by decide +kernel) rfl⟩
theorem lc_29 : layC[29]? = some (.inr (.inr (2, [0, 1, 2, 3, 4, 5]))) := rfl
theorem cvX4_51 : CV RX4 51 yX4_rowAt cX4_rowAt 2 (some (.object "PinDuties$Cells")) 1 4 := ⟨good_at 220 (by decide +kernel) rfl, good_at 222 (by decide +kernel) rfl, good_at 0 (by decide +kernel) rfl, good_at 48 (by decide +kernel) rfl, good_at 223 (by decide +kernel) rfl, ⟨by decide +kernel, by decide +kernel, by decide +kernel⟩, TX4, 9, rfl⟩
theorem cvX4_55 : CV RX4 55 yX4_makeCells cX4_makeCells 5 (some .int) 4 4 := ⟨good_at 224 (by decide +kernel) rfl, good_at 226 (by decide +kernel) rfl, good_at 1 (by decide +kernel) rfl, good_at 48 (by decide +kernel) rfl, good_at 227 (by decide +kernel) rfl, ⟨by decide +kernel, by decide +kernel, by decide +kernel⟩, TX4, 9, rfl⟩
theorem flX0_15 : FL RX0 15 0 1 := ⟨RX0, TX0, 2, rfl, by decide, inX0, good_at 180 (by decide +kernel) rfl⟩
theorem mlX0_19 : Cond.methodLink RX0 19 Lib.Math.min.name ∈ lw_good ∧ Cond.static Lib.Math.min.name ∈ lw_good ∧ Cond.initialized "java/lang/Math" ∈ lw_good ∧ Cond.code Lib.Math.min.name Lib.Math.min.code 2 (some .int) ∈ lw_good := ⟨good_at 236 (by decide +kernel) rfl, good_at 237 (by decide +kernel) rfl, good_at 54 (by decide +kernel) rfl, good_at 238 (by decide +kernel) rfl⟩
theorem fpX0_9 : FP RX0 9 0 0 .int := ⟨RX0, TX0, 2, tyX0, rfl, by decide, inX0, good_at 177 (by decide +kernel) rfl, tyX0_ok, nmX0, rfl, by decide +kernel⟩
theorem flX0_9 : FL RX0 9 0 0 := ⟨RX0, TX0, 2, rfl, by decide, inX0, good_at 177 (by decide +kernel) rfl⟩
theorem cvX4_287 : CV RX4 287 yX0_begin cX0_begin 4 none 2 0 := ⟨good_at 232 (by decide +kernel) rfl, good_at 233 (by decide +kernel) rfl, good_at 234 (by decide +kernel) rfl, good_at 52 (by decide +kernel) rfl, good_at 235 (by decide +kernel) rfl, ⟨by decide +kernel, by decide +kernel, by decide +kernel⟩, TX0, 2, rfl⟩
theorem fpX4_35 : FP RX4 35 4 5 .int := ⟨RX4, TX4, 9, tyX4, rfl, by decide, inX4, good_at 193 (by decide +kernel) rfl, tyX4_ok, nmX4, rfl, by decide +kernel⟩
theorem flX4_31 : FL RX4 31 4 4 := ⟨RX4, TX4, 9, rfl, by decide, inX4, good_at 192 (by decide +kernel) rfl⟩
theorem lc_32 : layC[32]? = some (.inr (.inl (0, 6))) := rfl
theorem cvX4_78 : CV RX4 78 yX4_find cX4_find 2 (some .int) 1 4 := ⟨good_at 228 (by decide +kernel) rfl, good_at 230 (by decide +kernel) rfl, good_at 2 (by decide +kernel) rfl, good_at 48 (by decide +kernel) rfl, good_at 231 (by decide +kernel) rfl, ⟨by decide +kernel, by decide +kernel, by decide +kernel⟩, TX4, 9, rfl⟩
theorem cvX4_71 : CV RX4 71 yX4_refuseMissing cX4_refuseMissing 2 (some .int) 1 4 := ⟨good_at 247 (by decide +kernel) rfl, good_at 249 (by decide +kernel) rfl, good_at 4 (by decide +kernel) rfl, good_at 48 (by decide +kernel) rfl, good_at 250 (by decide +kernel) rfl, ⟨by decide +kernel, by decide +kernel, by decide +kernel⟩, TX4, 9, rfl⟩
theorem cvX4_59 : CV RX4 59 yX4_refusePlace cX4_refusePlace 4 (some .int) 2 4 := ⟨good_at 243 (by decide +kernel) rfl, good_at 245 (by decide +kernel) rfl, good_at 3 (by decide +kernel) rfl, good_at 48 (by decide +kernel) rfl, good_at 246 (by decide +kernel) rfl, ⟨by decide +kernel, by decide +kernel, by decide +kernel⟩, TX4, 9, rfl⟩
theorem cvX4_81 : CV RX4 81 yX0_isMissing cX0_isMissing 1 (some .boolean) 0 0 := ⟨good_at 251 (by decide +kernel) rfl, good_at 252 (by decide +kernel) rfl, good_at 253 (by decide +kernel) rfl, good_at 52 (by decide +kernel) rfl, good_at 254 (by decide +kernel) rfl, ⟨by decide +kernel, by decide +kernel, by decide +kernel⟩, TX0, 2, rfl⟩
theorem cvX4_290 : CV RX4 290 yX0_hasCell cX0_hasCell 2 (some .boolean) 1 0 := ⟨good_at 255 (by decide +kernel) rfl, good_at 256 (by decide +kernel) rfl, good_at 257 (by decide +kernel) rfl, good_at 52 (by decide +kernel) rfl, good_at 258 (by decide +kernel) rfl, ⟨by decide +kernel, by decide +kernel, by decide +kernel⟩, TX0, 2, rfl⟩
theorem cvX4_63 : CV RX4 63 yX0_cellAt cX0_cellAt 2 (some .int) 1 0 := ⟨good_at 259 (by decide +kernel) rfl, good_at 260 (by decide +kernel) rfl, good_at 261 (by decide +kernel) rfl, good_at 52 (by decide +kernel) rfl, good_at 262 (by decide +kernel) rfl, ⟨by decide +kernel, by decide +kernel, by decide +kernel⟩, TX0, 2, rfl⟩
theorem fpX4_39 : FP RX4 39 4 6 .int := ⟨RX4, TX4, 9, tyX4, rfl, by decide, inX4, good_at 194 (by decide +kernel) rfl, tyX4_ok, nmX4, rfl, by decide +kernel⟩
theorem cvX4_67 : CV RX4 67 yX0_setCell cX0_setCell 3 none 2 0 := ⟨good_at 263 (by decide +kernel) rfl, good_at 264 (by decide +kernel) rfl, good_at 265 (by decide +kernel) rfl, good_at 52 (by decide +kernel) rfl, good_at 266 (by decide +kernel) rfl, ⟨by decide +kernel, by decide +kernel, by decide +kernel⟩, TX0, 2, rfl⟩
theorem fpX4_75 : FP RX4 75 0 0 .int := ⟨RX0, TX0, 2, tyX0, rfl, by decide, inX0, good_at 178 (by decide +kernel) rfl, tyX0_ok, nmX0, rfl, by decide +kernel⟩
theorem cvX4_85 : CV RX4 85 yX0_hasRun cX0_hasRun 3 (some .boolean) 2 0 := ⟨good_at 279 (by decide +kernel) rfl, good_at 280 (by decide +kernel) rfl, good_at 281 (by decide +kernel) rfl, good_at 52 (by decide +kernel) rfl, good_at 282 (by decide +kernel) rfl, ⟨by decide +kernel, by decide +kernel, by decide +kernel⟩, TX0, 2, rfl⟩
theorem flX4_89 : FL RX4 89 0 1 := ⟨RX0, TX0, 2, rfl, by decide, inX0, good_at 181 (by decide +kernel) rfl⟩
theorem acX4_92 : Cond.methodLink RX4 92 arraycopyName ∈ lw_good ∧ Cond.native arraycopyName ∈ lw_good ∧ Cond.static arraycopyName ∈ lw_good ∧ Cond.initialized "java/lang/System" ∈ lw_good := ⟨good_at 283 (by decide +kernel) rfl, good_at 285 (by decide +kernel) rfl, good_at 284 (by decide +kernel) rfl, good_at 55 (by decide +kernel) rfl⟩
theorem flX4_75 : FL RX4 75 0 0 := ⟨RX0, TX0, 2, rfl, by decide, inX0, good_at 178 (by decide +kernel) rfl⟩
theorem flX4_15 : FL RX4 15 4 1 := ⟨RX4, TX4, 9, rfl, by decide, inX4, good_at 189 (by decide +kernel) rfl⟩
theorem lc_30 : layC[30]? = some (.inr (.inr (2, [6, 7, 8, 9]))) := rfl
theorem cvX4_98 : CV RX4 98 yX4_textAt cX4_textAt 2 (some (.object "PinDuties$Cells")) 1 4 := ⟨good_at 294 (by decide +kernel) rfl, good_at 296 (by decide +kernel) rfl, good_at 5 (by decide +kernel) rfl, good_at 48 (by decide +kernel) rfl, good_at 297 (by decide +kernel) rfl, ⟨by decide +kernel, by decide +kernel, by decide +kernel⟩, TX4, 9, rfl⟩
theorem gsX4_308 : Cond.fieldLink RX4 308 "PinDuties" "LETTERS" "[I" ∈ lw_good := good_at 315 (by decide +kernel) rfl
theorem csX4_314 : CS RX4 314 yX4_kindOfLetter cX4_kindOfLetter 2 (some .int) 1 := ⟨good_at 312 (by decide +kernel) rfl, good_at 313 (by decide +kernel) rfl, good_at 48 (by decide +kernel) rfl, good_at 314 (by decide +kernel) rfl, ⟨by decide +kernel, by decide +kernel, by decide +kernel⟩⟩
theorem csX4_311 : CS RX4 311 yX4_isSign cX4_isSign 3 (some .boolean) 2 := ⟨good_at 309 (by decide +kernel) rfl, good_at 310 (by decide +kernel) rfl, good_at 48 (by decide +kernel) rfl, good_at 311 (by decide +kernel) rfl, ⟨by decide +kernel, by decide +kernel, by decide +kernel⟩⟩
theorem csX4_101 : CS RX4 101 yX4_firstFault cX4_firstFault 5 (some .int) 1 := ⟨good_at 306 (by decide +kernel) rfl, good_at 307 (by decide +kernel) rfl, good_at 48 (by decide +kernel) rfl, good_at 308 (by decide +kernel) rfl, ⟨by decide +kernel, by decide +kernel, by decide +kernel⟩⟩
theorem flX4_27 : FL RX4 27 4 3 := ⟨RX4, TX4, 9, rfl, by decide, inX4, good_at 191 (by decide +kernel) rfl⟩
theorem lc_33 : layC[33]? = some (.inl (3, [37, 25, 0, 0, 0, 36])) := rfl
theorem flX4_104 : FL RX4 104 3 0 := ⟨RX3, TX3, 6, rfl, by decide, inX3, good_at 149 (by decide +kernel) rfl⟩
theorem fpX2_9 : FP RX2 9 2 0 .int := ⟨RX2, TX2, 12, tyX2, rfl, by decide, inX2, good_at 81 (by decide +kernel) rfl, tyX2_ok, nmX2, rfl, by decide +kernel⟩
theorem lc_35 : layC[35]? = some (.inl (2, [0, 38, 39, 40, 41, 42, 43, 44, 45, 46, 47, 48])) := rfl
theorem flX2_54 : FL RX2 54 0 0 := ⟨RX0, TX0, 2, rfl, by decide, inX0, good_at 179 (by decide +kernel) rfl⟩
theorem flX2_9 : FL RX2 9 2 0 := ⟨RX2, TX2, 12, rfl, by decide, inX2, good_at 81 (by decide +kernel) rfl⟩
theorem cvX2_59 : CV RX2 59 yX0_cellAt cX0_cellAt 2 (some .int) 1 0 := ⟨good_at 325 (by decide +kernel) rfl, good_at 260 (by decide +kernel) rfl, good_at 261 (by decide +kernel) rfl, good_at 52 (by decide +kernel) rfl, good_at 262 (by decide +kernel) rfl, ⟨by decide +kernel, by decide +kernel, by decide +kernel⟩, TX0, 2, rfl⟩
theorem flX2_15 : FL RX2 15 2 1 := ⟨RX2, TX2, 12, rfl, by decide, inX2, good_at 84 (by decide +kernel) rfl⟩
theorem cnX2_75 : CN RX2 75 yX4_kindOfLetter "PinDuties" cX4_kindOfLetter 2 (some .int) 1 := ⟨by decide +kernel, good_at 313 (by decide +kernel) rfl, good_at 48 (by decide +kernel) rfl, good_at 314 (by decide +kernel) rfl, ⟨by decide +kernel, by decide +kernel, by decide +kernel⟩⟩
theorem lc_36 : layC[36]? = some (.inr (.inl (0, 8))) := rfl
theorem flX2_19 : FL RX2 19 2 2 := ⟨RX2, TX2, 12, rfl, by decide, inX2, good_at 87 (by decide +kernel) rfl⟩
theorem lc_37 : layC[37]? = some (.inr (.inl (0, 8))) := rfl
theorem flX2_22 : FL RX2 22 2 3 := ⟨RX2, TX2, 12, rfl, by decide, inX2, good_at 89 (by decide +kernel) rfl⟩
theorem lc_38 : layC[38]? = some (.inr (.inl (0, 8))) := rfl
theorem flX2_25 : FL RX2 25 2 4 := ⟨RX2, TX2, 12, rfl, by decide, inX2, good_at 90 (by decide +kernel) rfl⟩
theorem lc_39 : layC[39]? = some (.inr (.inl (0, 8))) := rfl
theorem flX2_28 : FL RX2 28 2 5 := ⟨RX2, TX2, 12, rfl, by decide, inX2, good_at 92 (by decide +kernel) rfl⟩
theorem lc_40 : layC[40]? = some (.inr (.inl (0, 8))) := rfl
theorem cvX2_63 : CV RX2 63 yX2_takeSign cX2_takeSign 3 none 2 2 := ⟨good_at 326 (by decide +kernel) rfl, good_at 328 (by decide +kernel) rfl, good_at 6 (by decide +kernel) rfl, good_at 50 (by decide +kernel) rfl, good_at 329 (by decide +kernel) rfl, ⟨by decide +kernel, by decide +kernel, by decide +kernel⟩, TX2, 12, rfl⟩
theorem flX2_31 : FL RX2 31 2 6 := ⟨RX2, TX2, 12, rfl, by decide, inX2, good_at 95 (by decide +kernel) rfl⟩
theorem lc_41 : layC[41]? = some (.inr (.inl (0, 8))) := rfl
theorem flX2_34 : FL RX2 34 2 7 := ⟨RX2, TX2, 12, rfl, by decide, inX2, good_at 98 (by decide +kernel) rfl⟩
theorem cvX2_87 : CV RX2 87 yX2_has cX2_has 2 (some .boolean) 1 2 := ⟨good_at 335 (by decide +kernel) rfl, good_at 336 (by decide +kernel) rfl, good_at 337 (by decide +kernel) rfl, good_at 50 (by decide +kernel) rfl, good_at 338 (by decide +kernel) rfl, ⟨by decide +kernel, by decide +kernel, by decide +kernel⟩, TX2, 12, rfl⟩
theorem cvX2_67 : CV RX2 67 yX2_valueAs cX2_valueAs 5 (some .int) 3 2 := ⟨good_at 331 (by decide +kernel) rfl, good_at 332 (by decide +kernel) rfl, good_at 333 (by decide +kernel) rfl, good_at 50 (by decide +kernel) rfl, good_at 334 (by decide +kernel) rfl, ⟨by decide +kernel, by decide +kernel, by decide +kernel⟩, TX2, 12, rfl⟩
theorem lc_42 : layC[42]? = some (.inr (.inl (0, 8))) := rfl
theorem cvX2_78 : CV RX2 78 yX2_apartFrom cX2_apartFrom 4 (some .int) 1 2 := ⟨good_at 343 (by decide +kernel) rfl, good_at 344 (by decide +kernel) rfl, good_at 345 (by decide +kernel) rfl, good_at 50 (by decide +kernel) rfl, good_at 346 (by decide +kernel) rfl, ⟨by decide +kernel, by decide +kernel, by decide +kernel⟩, TX2, 12, rfl⟩
theorem flX2_37 : FL RX2 37 2 8 := ⟨RX2, TX2, 12, rfl, by decide, inX2, good_at 101 (by decide +kernel) rfl⟩
theorem lc_43 : layC[43]? = some (.inr (.inl (0, 256))) := rfl
theorem flX2_40 : FL RX2 40 2 9 := ⟨RX2, TX2, 12, rfl, by decide, inX2, good_at 102 (by decide +kernel) rfl⟩
theorem lc_44 : layC[44]? = some (.inr (.inl (0, 256))) := rfl
theorem flX2_43 : FL RX2 43 2 10 := ⟨RX2, TX2, 12, rfl, by decide, inX2, good_at 103 (by decide +kernel) rfl⟩
theorem lc_45 : layC[45]? = some (.inr (.inl (1, 256))) := rfl
theorem flX2_47 : FL RX2 47 2 11 := ⟨RX2, TX2, 12, rfl, by decide, inX2, good_at 104 (by decide +kernel) rfl⟩
theorem lc_46 : layC[46]? = some (.inr (.inl (0, 256))) := rfl
theorem mlX2_81 : Cond.methodLink RX2 81 Lib.Math.max.name ∈ lw_good ∧ Cond.static Lib.Math.max.name ∈ lw_good ∧ Cond.initialized "java/lang/Math" ∈ lw_good ∧ Cond.code Lib.Math.max.name Lib.Math.max.code 2 (some .int) ∈ lw_good := ⟨good_at 347 (by decide +kernel) rfl, good_at 348 (by decide +kernel) rfl, good_at 54 (by decide +kernel) rfl, good_at 349 (by decide +kernel) rfl⟩
theorem cvX2_71 : CV RX2 71 yX2_reckonSetsTo cX2_reckonSetsTo 6 none 1 2 := ⟨good_at 339 (by decide +kernel) rfl, good_at 341 (by decide +kernel) rfl, good_at 7 (by decide +kernel) rfl, good_at 50 (by decide +kernel) rfl, good_at 342 (by decide +kernel) rfl, ⟨by decide +kernel, by decide +kernel, by decide +kernel⟩, TX2, 12, rfl⟩
theorem cvX4_108 : CV RX4 108 yX2_read cX2_read 5 none 1 2 := ⟨good_at 321 (by decide +kernel) rfl, good_at 322 (by decide +kernel) rfl, good_at 323 (by decide +kernel) rfl, good_at 50 (by decide +kernel) rfl, good_at 324 (by decide +kernel) rfl, ⟨by decide +kernel, by decide +kernel, by decide +kernel⟩, TX2, 12, rfl⟩
theorem fpX3_25 : FP RX3 25 3 2 .int := ⟨RX3, TX3, 6, tyX3, rfl, by decide, inX3, good_at 152 (by decide +kernel) rfl, tyX3_ok, nmX3, rfl, by decide +kernel⟩
theorem fpX3_29 : FP RX3 29 3 3 .int := ⟨RX3, TX3, 6, tyX3, rfl, by decide, inX3, good_at 154 (by decide +kernel) rfl, tyX3_ok, nmX3, rfl, by decide +kernel⟩
theorem fpX3_32 : FP RX3 32 3 4 .int := ⟨RX3, TX3, 6, tyX3, rfl, by decide, inX3, good_at 156 (by decide +kernel) rfl, tyX3_ok, nmX3, rfl, by decide +kernel⟩
theorem flX3_12 : FL RX3 12 3 0 := ⟨RX3, TX3, 6, rfl, by decide, inX3, good_at 148 (by decide +kernel) rfl⟩
theorem flX3_46 : FL RX3 46 2 0 := ⟨RX2, TX2, 12, rfl, by decide, inX2, good_at 82 (by decide +kernel) rfl⟩
theorem flX3_35 : FL RX3 35 3 5 := ⟨RX3, TX3, 6, rfl, by decide, inX3, good_at 158 (by decide +kernel) rfl⟩
theorem flX3_59 : FL RX3 59 2 2 := ⟨RX2, TX2, 12, rfl, by decide, inX2, good_at 88 (by decide +kernel) rfl⟩
theorem lc_34 : layC[34]? = some (.inr (.inl (0, 8))) := rfl
theorem flX3_21 : FL RX3 21 3 1 := ⟨RX3, TX3, 6, rfl, by decide, inX3, good_at 150 (by decide +kernel) rfl⟩
theorem fpX3_39 : FP RX3 39 1 0 .int := ⟨RX1, TX1, 2, tyX1, rfl, by decide, inX1, good_at 139 (by decide +kernel) rfl, tyX1_ok, nmX1, rfl, by decide +kernel⟩
theorem lc_23 : layC[23]? = some (.inl (1, [0, 29])) := rfl
theorem flX3_52 : FL RX3 52 1 1 := ⟨RX1, TX1, 2, rfl, by decide, inX1, good_at 142 (by decide +kernel) rfl⟩
theorem lc_27 : layC[27]? = some (.inr (.inl (0, 40))) := rfl
theorem flX3_25 : FL RX3 25 3 2 := ⟨RX3, TX3, 6, rfl, by decide, inX3, good_at 152 (by decide +kernel) rfl⟩
theorem flX3_32 : FL RX3 32 3 4 := ⟨RX3, TX3, 6, rfl, by decide, inX3, good_at 156 (by decide +kernel) rfl⟩
theorem cvX3_42 : CV RX3 42 yX2_all cX2_all 1 (some .int) 0 2 := ⟨good_at 366 (by decide +kernel) rfl, good_at 367 (by decide +kernel) rfl, good_at 368 (by decide +kernel) rfl, good_at 50 (by decide +kernel) rfl, good_at 369 (by decide +kernel) rfl, ⟨by decide +kernel, by decide +kernel, by decide +kernel⟩, TX2, 12, rfl⟩
theorem flX3_29 : FL RX3 29 3 3 := ⟨RX3, TX3, 6, rfl, by decide, inX3, good_at 154 (by decide +kernel) rfl⟩
theorem cvX3_49 : CV RX3 49 yX3_lying cX3_lying 1 (some .int) 0 3 := ⟨good_at 362 (by decide +kernel) rfl, good_at 363 (by decide +kernel) rfl, good_at 364 (by decide +kernel) rfl, good_at 49 (by decide +kernel) rfl, good_at 365 (by decide +kernel) rfl, ⟨by decide +kernel, by decide +kernel, by decide +kernel⟩, TX3, 6, rfl⟩
theorem cvX3_61 : CV RX3 61 yX3_lyingHere cX3_lyingHere 3 (some .int) 0 3 := ⟨good_at 358 (by decide +kernel) rfl, good_at 359 (by decide +kernel) rfl, good_at 360 (by decide +kernel) rfl, good_at 49 (by decide +kernel) rfl, good_at 361 (by decide +kernel) rfl, ⟨by decide +kernel, by decide +kernel, by decide +kernel⟩, TX3, 6, rfl⟩
theorem cvX3_64 : CV RX3 64 yX2_has cX2_has 2 (some .boolean) 1 2 := ⟨good_at 370 (by decide +kernel) rfl, good_at 336 (by decide +kernel) rfl, good_at 337 (by decide +kernel) rfl, good_at 50 (by decide +kernel) rfl, good_at 338 (by decide +kernel) rfl, ⟨by decide +kernel, by decide +kernel, by decide +kernel⟩, TX2, 12, rfl⟩
theorem cvX3_55 : CV RX3 55 yX3_change cX3_change 2 none 1 3 := ⟨good_at 354 (by decide +kernel) rfl, good_at 356 (by decide +kernel) rfl, good_at 8 (by decide +kernel) rfl, good_at 49 (by decide +kernel) rfl, good_at 357 (by decide +kernel) rfl, ⟨by decide +kernel, by decide +kernel, by decide +kernel⟩, TX3, 6, rfl⟩
theorem cvX4_114 : CV RX4 114 yX3_goBackTo cX3_goBackTo 3 none 1 3 := ⟨good_at 350 (by decide +kernel) rfl, good_at 351 (by decide +kernel) rfl, good_at 352 (by decide +kernel) rfl, good_at 49 (by decide +kernel) rfl, good_at 353 (by decide +kernel) rfl, ⟨by decide +kernel, by decide +kernel, by decide +kernel⟩, TX3, 6, rfl⟩
theorem flX4_121 : FL RX4 121 2 0 := ⟨RX2, TX2, 12, rfl, by decide, inX2, good_at 83 (by decide +kernel) rfl⟩
theorem flX4_20 : FL RX4 20 4 2 := ⟨RX4, TX4, 9, rfl, by decide, inX4, good_at 190 (by decide +kernel) rfl⟩
theorem lc_31 : layC[31]? = some (.inr (.inr (3, [20, 21, 22]))) := rfl
theorem fpX4_118 : FP RX4 118 1 0 .int := ⟨RX1, TX1, 2, tyX1, rfl, by decide, inX1, good_at 140 (by decide +kernel) rfl, tyX1_ok, nmX1, rfl, by decide +kernel⟩
theorem cvX4_124 : CV RX4 124 yX2_has cX2_has 2 (some .boolean) 1 2 := ⟨good_at 375 (by decide +kernel) rfl, good_at 336 (by decide +kernel) rfl, good_at 337 (by decide +kernel) rfl, good_at 50 (by decide +kernel) rfl, good_at 338 (by decide +kernel) rfl, ⟨by decide +kernel, by decide +kernel, by decide +kernel⟩, TX2, 12, rfl⟩
theorem flX3_94 : FL RX3 94 2 1 := ⟨RX2, TX2, 12, rfl, by decide, inX2, good_at 86 (by decide +kernel) rfl⟩
theorem flX3_97 : FL RX3 97 2 6 := ⟨RX2, TX2, 12, rfl, by decide, inX2, good_at 96 (by decide +kernel) rfl⟩
theorem flX3_100 : FL RX3 100 2 4 := ⟨RX2, TX2, 12, rfl, by decide, inX2, good_at 91 (by decide +kernel) rfl⟩
theorem flX3_103 : FL RX3 103 2 5 := ⟨RX2, TX2, 12, rfl, by decide, inX2, good_at 94 (by decide +kernel) rfl⟩
theorem flX3_106 : FL RX3 106 2 7 := ⟨RX2, TX2, 12, rfl, by decide, inX2, good_at 100 (by decide +kernel) rfl⟩
theorem cvX4_128 : CV RX4 128 yX3_tellPin cX3_tellPin 3 (some .int) 2 3 := ⟨good_at 376 (by decide +kernel) rfl, good_at 377 (by decide +kernel) rfl, good_at 378 (by decide +kernel) rfl, good_at 49 (by decide +kernel) rfl, good_at 379 (by decide +kernel) rfl, ⟨by decide +kernel, by decide +kernel, by decide +kernel⟩, TX3, 6, rfl⟩
theorem flX4_132 : FL RX4 132 2 1 := ⟨RX2, TX2, 12, rfl, by decide, inX2, good_at 85 (by decide +kernel) rfl⟩
theorem csX4_135 : CS RX4 135 yX4_isOf cX4_isOf 2 (some .boolean) 2 := ⟨good_at 384 (by decide +kernel) rfl, good_at 385 (by decide +kernel) rfl, good_at 48 (by decide +kernel) rfl, good_at 386 (by decide +kernel) rfl, ⟨by decide +kernel, by decide +kernel, by decide +kernel⟩⟩
theorem flX4_138 : FL RX4 138 2 7 := ⟨RX2, TX2, 12, rfl, by decide, inX2, good_at 99 (by decide +kernel) rfl⟩
theorem flX4_141 : FL RX4 141 2 5 := ⟨RX2, TX2, 12, rfl, by decide, inX2, good_at 93 (by decide +kernel) rfl⟩
theorem cvX4_144 : CV RX4 144 yX2_valueAs cX2_valueAs 5 (some .int) 3 2 := ⟨good_at 387 (by decide +kernel) rfl, good_at 332 (by decide +kernel) rfl, good_at 333 (by decide +kernel) rfl, good_at 50 (by decide +kernel) rfl, good_at 334 (by decide +kernel) rfl, ⟨by decide +kernel, by decide +kernel, by decide +kernel⟩, TX2, 12, rfl⟩
theorem csX4_148 : CS RX4 148 yX4_isLuck cX4_isLuck 1 (some .boolean) 1 := ⟨good_at 392 (by decide +kernel) rfl, good_at 393 (by decide +kernel) rfl, good_at 48 (by decide +kernel) rfl, good_at 394 (by decide +kernel) rfl, ⟨by decide +kernel, by decide +kernel, by decide +kernel⟩⟩
theorem flX4_151 : FL RX4 151 3 2 := ⟨RX3, TX3, 6, rfl, by decide, inX3, good_at 153 (by decide +kernel) rfl⟩
theorem flX3_39 : FL RX3 39 1 0 := ⟨RX1, TX1, 2, rfl, by decide, inX1, good_at 139 (by decide +kernel) rfl⟩
theorem cvX4_154 : CV RX4 154 yX3_hasRoomFor cX3_hasRoomFor 2 (some .boolean) 1 3 := ⟨good_at 399 (by decide +kernel) rfl, good_at 400 (by decide +kernel) rfl, good_at 401 (by decide +kernel) rfl, good_at 49 (by decide +kernel) rfl, good_at 402 (by decide +kernel) rfl, ⟨by decide +kernel, by decide +kernel, by decide +kernel⟩, TX3, 6, rfl⟩
theorem cvX4_157 : CV RX4 157 yX3_enact cX3_enact 2 none 1 3 := ⟨good_at 403 (by decide +kernel) rfl, good_at 404 (by decide +kernel) rfl, good_at 405 (by decide +kernel) rfl, good_at 49 (by decide +kernel) rfl, good_at 406 (by decide +kernel) rfl, ⟨by decide +kernel, by decide +kernel, by decide +kernel⟩, TX3, 6, rfl⟩
theorem cvX4_160 : CV RX4 160 yX3_lyingHere cX3_lyingHere 3 (some .int) 0 3 := ⟨good_at 411 (by decide +kernel) rfl, good_at 359 (by decide +kernel) rfl, good_at 360 (by decide +kernel) rfl, good_at 49 (by decide +kernel) rfl, good_at 361 (by decide +kernel) rfl, ⟨by decide +kernel, by decide +kernel, by decide +kernel⟩, TX3, 6, rfl⟩
theorem flX4_164 : FL RX4 164 3 3 := ⟨RX3, TX3, 6, rfl, by decide, inX3, good_at 155 (by decide +kernel) rfl⟩
theorem kiJ6_265 : Cond.constant "java/lang/Integer" 265 (1431655765) ∈ lw_good := good_at 415 (by decide +kernel) rfl
theorem kiJ6_266 : Cond.constant "java/lang/Integer" 266 (858993459) ∈ lw_good := good_at 416 (by decide +kernel) rfl
theorem kiJ6_267 : Cond.constant "java/lang/Integer" 267 (252645135) ∈ lw_good := good_at 417 (by decide +kernel) rfl
theorem csX4_167 : CS RX4 167 yJ6_bitCount_0f7a4 cJ6_bitCount_0f7a4 1 (some .int) 1 := ⟨good_at 412 (by decide +kernel) rfl, good_at 413 (by decide +kernel) rfl, good_at 56 (by decide +kernel) rfl, good_at 414 (by decide +kernel) rfl, ⟨by decide +kernel, by decide +kernel, by decide +kernel⟩⟩
theorem flX4_172 : FL RX4 172 3 1 := ⟨RX3, TX3, 6, rfl, by decide, inX3, good_at 151 (by decide +kernel) rfl⟩
theorem flX4_118 : FL RX4 118 1 0 := ⟨RX1, TX1, 2, rfl, by decide, inX1, good_at 140 (by decide +kernel) rfl⟩
theorem cvX4_176 : CV RX4 176 yX4_keptAt cX4_keptAt 2 (some (.object "PinDuties$Deeds")) 1 4 := ⟨good_at 434 (by decide +kernel) rfl, good_at 436 (by decide +kernel) rfl, good_at 9 (by decide +kernel) rfl, good_at 48 (by decide +kernel) rfl, good_at 437 (by decide +kernel) rfl, ⟨by decide +kernel, by decide +kernel, by decide +kernel⟩, TX4, 9, rfl⟩
theorem flX1_9 : FL RX1 9 1 0 := ⟨RX1, TX1, 2, rfl, by decide, inX1, good_at 138 (by decide +kernel) rfl⟩
theorem fpX1_9 : FP RX1 9 1 0 .int := ⟨RX1, TX1, 2, tyX1, rfl, by decide, inX1, good_at 138 (by decide +kernel) rfl, tyX1_ok, nmX1, rfl, by decide +kernel⟩
theorem flX1_15 : FL RX1 15 1 1 := ⟨RX1, TX1, 2, rfl, by decide, inX1, good_at 141 (by decide +kernel) rfl⟩
theorem cvX4_180 : CV RX4 180 yX1_takeOver cX1_takeOver 3 none 1 1 := ⟨good_at 438 (by decide +kernel) rfl, good_at 439 (by decide +kernel) rfl, good_at 440 (by decide +kernel) rfl, good_at 51 (by decide +kernel) rfl, good_at 441 (by decide +kernel) rfl, ⟨by decide +kernel, by decide +kernel, by decide +kernel⟩, TX1, 2, rfl⟩
theorem flX4_184 : FL RX4 184 2 6 := ⟨RX2, TX2, 12, rfl, by decide, inX2, good_at 97 (by decide +kernel) rfl⟩
theorem csX2_50 : CS RX2 50 yX2_isSet cX2_isSet 1 (some .boolean) 1 := ⟨good_at 459 (by decide +kernel) rfl, good_at 460 (by decide +kernel) rfl, good_at 50 (by decide +kernel) rfl, good_at 461 (by decide +kernel) rfl, ⟨by decide +kernel, by decide +kernel, by decide +kernel⟩⟩
theorem cvX4_190 : CV RX4 190 yX2_sumOf cX2_sumOf 2 (some .int) 1 2 := ⟨good_at 455 (by decide +kernel) rfl, good_at 456 (by decide +kernel) rfl, good_at 457 (by decide +kernel) rfl, good_at 50 (by decide +kernel) rfl, good_at 458 (by decide +kernel) rfl, ⟨by decide +kernel, by decide +kernel, by decide +kernel⟩, TX2, 12, rfl⟩
theorem cvX4_187 : CV RX4 187 yX2_apartFrom cX2_apartFrom 4 (some .int) 1 2 := ⟨good_at 454 (by decide +kernel) rfl, good_at 344 (by decide +kernel) rfl, good_at 345 (by decide +kernel) rfl, good_at 50 (by decide +kernel) rfl, good_at 346 (by decide +kernel) rfl, ⟨by decide +kernel, by decide +kernel, by decide +kernel⟩, TX2, 12, rfl⟩
theorem cvX4_193 : CV RX4 193 yX2_isApart cX2_isApart 2 (some .boolean) 1 2 := ⟨good_at 466 (by decide +kernel) rfl, good_at 467 (by decide +kernel) rfl, good_at 468 (by decide +kernel) rfl, good_at 50 (by decide +kernel) rfl, good_at 469 (by decide +kernel) rfl, ⟨by decide +kernel, by decide +kernel, by decide +kernel⟩, TX2, 12, rfl⟩
theorem cvX4_196 : CV RX4 196 yX2_all cX2_all 1 (some .int) 0 2 := ⟨good_at 474 (by decide +kernel) rfl, good_at 367 (by decide +kernel) rfl, good_at 368 (by decide +kernel) rfl, good_at 50 (by decide +kernel) rfl, good_at 369 (by decide +kernel) rfl, ⟨by decide +kernel, by decide +kernel, by decide +kernel⟩, TX2, 12, rfl⟩
theorem flX4_199 : FL RX4 199 3 4 := ⟨RX3, TX3, 6, rfl, by decide, inX3, good_at 157 (by decide +kernel) rfl⟩
theorem cvX2_90 : CV RX2 90 yX2_isApart cX2_isApart 2 (some .boolean) 1 2 := ⟨good_at 479 (by decide +kernel) rfl, good_at 467 (by decide +kernel) rfl, good_at 468 (by decide +kernel) rfl, good_at 50 (by decide +kernel) rfl, good_at 469 (by decide +kernel) rfl, ⟨by decide +kernel, by decide +kernel, by decide +kernel⟩, TX2, 12, rfl⟩
theorem cvX2_93 : CV RX2 93 yX2_sumOf cX2_sumOf 2 (some .int) 1 2 := ⟨good_at 480 (by decide +kernel) rfl, good_at 456 (by decide +kernel) rfl, good_at 457 (by decide +kernel) rfl, good_at 50 (by decide +kernel) rfl, good_at 458 (by decide +kernel) rfl, ⟨by decide +kernel, by decide +kernel, by decide +kernel⟩, TX2, 12, rfl⟩
theorem cvX2_96 : CV RX2 96 yX2_mostOf cX2_mostOf 2 (some .int) 1 2 := ⟨good_at 481 (by decide +kernel) rfl, good_at 482 (by decide +kernel) rfl, good_at 483 (by decide +kernel) rfl, good_at 50 (by decide +kernel) rfl, good_at 484 (by decide +kernel) rfl, ⟨by decide +kernel, by decide +kernel, by decide +kernel⟩, TX2, 12, rfl⟩
theorem cvX4_202 : CV RX4 202 yX2_leastOfMost cX2_leastOfMost 3 (some .int) 1 2 := ⟨good_at 475 (by decide +kernel) rfl, good_at 476 (by decide +kernel) rfl, good_at 477 (by decide +kernel) rfl, good_at 50 (by decide +kernel) rfl, good_at 478 (by decide +kernel) rfl, ⟨by decide +kernel, by decide +kernel, by decide +kernel⟩, TX2, 12, rfl⟩
theorem cvX2_99 : CV RX2 99 yX0_begin cX0_begin 4 none 2 0 := ⟨good_at 489 (by decide +kernel) rfl, good_at 233 (by decide +kernel) rfl, good_at 234 (by decide +kernel) rfl, good_at 52 (by decide +kernel) rfl, good_at 235 (by decide +kernel) rfl, ⟨by decide +kernel, by decide +kernel, by decide +kernel⟩, TX0, 2, rfl⟩
theorem cvX2_102 : CV RX2 102 yX0_append cX0_append 2 none 1 0 := ⟨good_at 490 (by decide +kernel) rfl, good_at 491 (by decide +kernel) rfl, good_at 492 (by decide +kernel) rfl, good_at 52 (by decide +kernel) rfl, good_at 493 (by decide +kernel) rfl, ⟨by decide +kernel, by decide +kernel, by decide +kernel⟩, TX0, 2, rfl⟩
theorem cvX4_205 : CV RX4 205 yX2_orderInto cX2_orderInto 5 none 2 2 := ⟨good_at 485 (by decide +kernel) rfl, good_at 486 (by decide +kernel) rfl, good_at 487 (by decide +kernel) rfl, good_at 50 (by decide +kernel) rfl, good_at 488 (by decide +kernel) rfl, ⟨by decide +kernel, by decide +kernel, by decide +kernel⟩, TX2, 12, rfl⟩
theorem cvX4_209 : CV RX4 209 yX2_mostOf cX2_mostOf 2 (some .int) 1 2 := ⟨good_at 494 (by decide +kernel) rfl, good_at 482 (by decide +kernel) rfl, good_at 483 (by decide +kernel) rfl, good_at 50 (by decide +kernel) rfl, good_at 484 (by decide +kernel) rfl, ⟨by decide +kernel, by decide +kernel, by decide +kernel⟩, TX2, 12, rfl⟩
theorem cvX4_212 : CV RX4 212 yX3_lying cX3_lying 1 (some .int) 0 3 := ⟨good_at 499 (by decide +kernel) rfl, good_at 363 (by decide +kernel) rfl, good_at 364 (by decide +kernel) rfl, good_at 49 (by decide +kernel) rfl, good_at 365 (by decide +kernel) rfl, ⟨by decide +kernel, by decide +kernel, by decide +kernel⟩, TX3, 6, rfl⟩
theorem mlX3_72 : Cond.methodLink RX3 72 Lib.Math.min.name ∈ lw_good ∧ Cond.static Lib.Math.min.name ∈ lw_good ∧ Cond.initialized "java/lang/Math" ∈ lw_good ∧ Cond.code Lib.Math.min.name Lib.Math.min.code 2 (some .int) ∈ lw_good := ⟨good_at 504 (by decide +kernel) rfl, good_at 237 (by decide +kernel) rfl, good_at 54 (by decide +kernel) rfl, good_at 238 (by decide +kernel) rfl⟩
theorem cvX4_215 : CV RX4 215 yX3_lowest cX3_lowest 4 (some .int) 1 3 := ⟨good_at 500 (by decide +kernel) rfl, good_at 501 (by decide +kernel) rfl, good_at 502 (by decide +kernel) rfl, good_at 49 (by decide +kernel) rfl, good_at 503 (by decide +kernel) rfl, ⟨by decide +kernel, by decide +kernel, by decide +kernel⟩, TX3, 6, rfl⟩
theorem mlX3_78 : Cond.methodLink RX3 78 Lib.Math.max.name ∈ lw_good ∧ Cond.static Lib.Math.max.name ∈ lw_good ∧ Cond.initialized "java/lang/Math" ∈ lw_good ∧ Cond.code Lib.Math.max.name Lib.Math.max.code 2 (some .int) ∈ lw_good := ⟨good_at 509 (by decide +kernel) rfl, good_at 348 (by decide +kernel) rfl, good_at 54 (by decide +kernel) rfl, good_at 349 (by decide +kernel) rfl⟩
theorem cvX4_218 : CV RX4 218 yX3_highest cX3_highest 4 (some .int) 1 3 := ⟨good_at 505 (by decide +kernel) rfl, good_at 506 (by decide +kernel) rfl, good_at 507 (by decide +kernel) rfl, good_at 49 (by decide +kernel) rfl, good_at 508 (by decide +kernel) rfl, ⟨by decide +kernel, by decide +kernel, by decide +kernel⟩, TX3, 6, rfl⟩
theorem mlX3_81 : Cond.methodLink RX3 81 Lib.Math.abs.name ∈ lw_good ∧ Cond.static Lib.Math.abs.name ∈ lw_good ∧ Cond.initialized "java/lang/Math" ∈ lw_good ∧ Cond.code Lib.Math.abs.name Lib.Math.abs.code 1 (some .int) ∈ lw_good := ⟨good_at 514 (by decide +kernel) rfl, good_at 515 (by decide +kernel) rfl, good_at 54 (by decide +kernel) rfl, good_at 516 (by decide +kernel) rfl⟩
theorem cvX4_221 : CV RX4 221 yX3_stepsBy cX3_stepsBy 3 (some .int) 2 3 := ⟨good_at 510 (by decide +kernel) rfl, good_at 511 (by decide +kernel) rfl, good_at 512 (by decide +kernel) rfl, good_at 49 (by decide +kernel) rfl, good_at 513 (by decide +kernel) rfl, ⟨by decide +kernel, by decide +kernel, by decide +kernel⟩, TX3, 6, rfl⟩
theorem cvX3_85 : CV RX3 85 yX3_lowest cX3_lowest 4 (some .int) 1 3 := ⟨good_at 521 (by decide +kernel) rfl, good_at 501 (by decide +kernel) rfl, good_at 502 (by decide +kernel) rfl, good_at 49 (by decide +kernel) rfl, good_at 503 (by decide +kernel) rfl, ⟨by decide +kernel, by decide +kernel, by decide +kernel⟩, TX3, 6, rfl⟩
theorem cvX3_88 : CV RX3 88 yX3_highest cX3_highest 4 (some .int) 1 3 := ⟨good_at 522 (by decide +kernel) rfl, good_at 506 (by decide +kernel) rfl, good_at 507 (by decide +kernel) rfl, good_at 49 (by decide +kernel) rfl, good_at 508 (by decide +kernel) rfl, ⟨by decide +kernel, by decide +kernel, by decide +kernel⟩, TX3, 6, rfl⟩
theorem cvX3_91 : CV RX3 91 yX3_stepsBy cX3_stepsBy 3 (some .int) 2 3 := ⟨good_at 523 (by decide +kernel) rfl, good_at 511 (by decide +kernel) rfl, good_at 512 (by decide +kernel) rfl, good_at 49 (by decide +kernel) rfl, good_at 513 (by decide +kernel) rfl, ⟨by decide +kernel, by decide +kernel, by decide +kernel⟩, TX3, 6, rfl⟩
theorem cvX4_224 : CV RX4 224 yX3_stepsFor cX3_stepsFor 4 (some .int) 1 3 := ⟨good_at 517 (by decide +kernel) rfl, good_at 518 (by decide +kernel) rfl, good_at 519 (by decide +kernel) rfl, good_at 49 (by decide +kernel) rfl, good_at 520 (by decide +kernel) rfl, ⟨by decide +kernel, by decide +kernel, by decide +kernel⟩, TX3, 6, rfl⟩
theorem cvX4_227 : CV RX4 227 yX2_hoursOf cX2_hoursOf 2 (some .int) 1 2 := ⟨good_at 528 (by decide +kernel) rfl, good_at 529 (by decide +kernel) rfl, good_at 530 (by decide +kernel) rfl, good_at 50 (by decide +kernel) rfl, good_at 531 (by decide +kernel) rfl, ⟨by decide +kernel, by decide +kernel, by decide +kernel⟩, TX2, 12, rfl⟩
theorem cvX4_230 : CV RX4 230 yX0_placesOf cX0_placesOf 4 (some .int) 1 0 := ⟨good_at 536 (by decide +kernel) rfl, good_at 537 (by decide +kernel) rfl, good_at 538 (by decide +kernel) rfl, good_at 52 (by decide +kernel) rfl, good_at 539 (by decide +kernel) rfl, ⟨by decide +kernel, by decide +kernel, by decide +kernel⟩, TX0, 2, rfl⟩
theorem cvX4_233 : CV RX4 233 yX4_countWhose cX4_countWhose 7 (some .int) 2 4 := ⟨good_at 540 (by decide +kernel) rfl, good_at 542 (by decide +kernel) rfl, good_at 10 (by decide +kernel) rfl, good_at 48 (by decide +kernel) rfl, good_at 543 (by decide +kernel) rfl, ⟨by decide +kernel, by decide +kernel, by decide +kernel⟩, TX4, 9, rfl⟩
theorem csX4_246 : CS RX4 246 yX4_isWorth cX4_isWorth 1 (some .boolean) 1 := ⟨good_at 552 (by decide +kernel) rfl, good_at 553 (by decide +kernel) rfl, good_at 48 (by decide +kernel) rfl, good_at 554 (by decide +kernel) rfl, ⟨by decide +kernel, by decide +kernel, by decide +kernel⟩⟩
theorem cvX4_236 : CV RX4 236 yX4_refusePairs cX4_refusePairs 5 (some .int) 2 4 := ⟨good_at 548 (by decide +kernel) rfl, good_at 550 (by decide +kernel) rfl, good_at 11 (by decide +kernel) rfl, good_at 48 (by decide +kernel) rfl, good_at 551 (by decide +kernel) rfl, ⟨by decide +kernel, by decide +kernel, by decide +kernel⟩, TX4, 9, rfl⟩
theorem cvX4_239 : CV RX4 239 yX4_kindsBy cX4_kindsBy 7 (some .int) 2 4 := ⟨good_at 555 (by decide +kernel) rfl, good_at 557 (by decide +kernel) rfl, good_at 12 (by decide +kernel) rfl, good_at 48 (by decide +kernel) rfl, good_at 558 (by decide +kernel) rfl, ⟨by decide +kernel, by decide +kernel, by decide +kernel⟩, TX4, 9, rfl⟩
theorem cvX4_243 : CV RX4 243 yX2_greatestPart cX2_greatestPart 9 (some .int) 3 2 := ⟨good_at 563 (by decide +kernel) rfl, good_at 564 (by decide +kernel) rfl, good_at 565 (by decide +kernel) rfl, good_at 50 (by decide +kernel) rfl, good_at 566 (by decide +kernel) rfl, ⟨by decide +kernel, by decide +kernel, by decide +kernel⟩, TX2, 12, rfl⟩
theorem csX4_249 : CS RX4 249 yX4_gainByTurns cX4_gainByTurns 9 (some .int) 5 := ⟨good_at 575 (by decide +kernel) rfl, good_at 576 (by decide +kernel) rfl, good_at 48 (by decide +kernel) rfl, good_at 577 (by decide +kernel) rfl, ⟨by decide +kernel, by decide +kernel, by decide +kernel⟩⟩
theorem mlX4_303 : Cond.methodLink RX4 303 Lib.Math.max.name ∈ lw_good ∧ Cond.static Lib.Math.max.name ∈ lw_good ∧ Cond.initialized "java/lang/Math" ∈ lw_good ∧ Cond.code Lib.Math.max.name Lib.Math.max.code 2 (some .int) ∈ lw_good := ⟨good_at 578 (by decide +kernel) rfl, good_at 348 (by decide +kernel) rfl, good_at 54 (by decide +kernel) rfl, good_at 349 (by decide +kernel) rfl⟩
theorem klX4_257 : Cond.constantLong RX4 257 (12) ∈ lw_good := good_at 589 (by decide +kernel) rfl
theorem csX4_259 : CS RX4 259 yX4_power cX4_power 6 (some .long) 2 := ⟨good_at 586 (by decide +kernel) rfl, good_at 587 (by decide +kernel) rfl, good_at 48 (by decide +kernel) rfl, good_at 588 (by decide +kernel) rfl, ⟨by decide +kernel, by decide +kernel, by decide +kernel⟩⟩
theorem fpX4_42 : FP RX4 42 4 7 .long := ⟨RX4, TX4, 9, tyX4, rfl, by decide, inX4, good_at 195 (by decide +kernel) rfl, tyX4_ok, nmX4, rfl, by decide +kernel⟩
theorem fpX4_46 : FP RX4 46 4 8 .long := ⟨RX4, TX4, 9, tyX4, rfl, by decide, inX4, good_at 196 (by decide +kernel) rfl, tyX4_ok, nmX4, rfl, by decide +kernel⟩
theorem cvX4_263 : CV RX4 263 yX4_tellFraction cX4_tellFraction 12 none 2 4 := ⟨good_at 590 (by decide +kernel) rfl, good_at 592 (by decide +kernel) rfl, good_at 13 (by decide +kernel) rfl, good_at 48 (by decide +kernel) rfl, good_at 593 (by decide +kernel) rfl, ⟨by decide +kernel, by decide +kernel, by decide +kernel⟩, TX4, 9, rfl⟩
theorem csX4_253 : CS RX4 253 yX4_weigh cX4_weigh 4 (some .long) 3 := ⟨good_at 583 (by decide +kernel) rfl, good_at 584 (by decide +kernel) rfl, good_at 48 (by decide +kernel) rfl, good_at 585 (by decide +kernel) rfl, ⟨by decide +kernel, by decide +kernel, by decide +kernel⟩⟩
theorem kiX4_267 : Cond.constant RX4 267 (2147483647) ∈ lw_good := good_at 602 (by decide +kernel) rfl
theorem klX4_268 : Cond.constantLong RX4 268 (48271) ∈ lw_good := good_at 603 (by decide +kernel) rfl
theorem klX4_270 : Cond.constantLong RX4 270 (2147483647) ∈ lw_good := good_at 604 (by decide +kernel) rfl
theorem klX3_68 : Cond.constantLong RX3 68 (8) ∈ lw_good := good_at 609 (by decide +kernel) rfl
theorem klX3_70 : Cond.constantLong RX3 70 (2) ∈ lw_good := good_at 610 (by decide +kernel) rfl
theorem cvX4_272 : CV RX4 272 yX3_deedByLot cX3_deedByLot 5 (some .int) 1 3 := ⟨good_at 605 (by decide +kernel) rfl, good_at 606 (by decide +kernel) rfl, good_at 607 (by decide +kernel) rfl, good_at 49 (by decide +kernel) rfl, good_at 608 (by decide +kernel) rfl, ⟨by decide +kernel, by decide +kernel, by decide +kernel⟩, TX3, 6, rfl⟩
theorem flX4_39 : FL RX4 39 4 6 := ⟨RX4, TX4, 9, rfl, by decide, inX4, good_at 194 (by decide +kernel) rfl⟩
theorem flX4_42 : FL RX4 42 4 7 := ⟨RX4, TX4, 9, rfl, by decide, inX4, good_at 195 (by decide +kernel) rfl⟩
theorem flX4_46 : FL RX4 46 4 8 := ⟨RX4, TX4, 9, rfl, by decide, inX4, good_at 196 (by decide +kernel) rfl⟩
theorem csX4_293 : CS RX4 293 yX4_countThere cX4_countThere 3 (some .int) 1 := ⟨good_at 631 (by decide +kernel) rfl, good_at 632 (by decide +kernel) rfl, good_at 48 (by decide +kernel) rfl, good_at 633 (by decide +kernel) rfl, ⟨by decide +kernel, by decide +kernel, by decide +kernel⟩⟩
theorem cvX4_297 : CV RX4 297 yX4_countKept cX4_countKept 3 (some .int) 0 4 := ⟨good_at 634 (by decide +kernel) rfl, good_at 636 (by decide +kernel) rfl, good_at 15 (by decide +kernel) rfl, good_at 48 (by decide +kernel) rfl, good_at 637 (by decide +kernel) rfl, ⟨by decide +kernel, by decide +kernel, by decide +kernel⟩, TX4, 9, rfl⟩
theorem cnX2_105 : CN RX2 105 yX4_isOf "PinDuties" cX4_isOf 2 (some .boolean) 2 := ⟨by decide +kernel, good_at 385 (by decide +kernel) rfl, good_at 48 (by decide +kernel) rfl, good_at 386 (by decide +kernel) rfl, ⟨by decide +kernel, by decide +kernel, by decide +kernel⟩⟩
theorem cvX4_300 : CV RX4 300 yX2_countOfKind cX2_countOfKind 4 (some .int) 1 2 := ⟨good_at 638 (by decide +kernel) rfl, good_at 639 (by decide +kernel) rfl, good_at 640 (by decide +kernel) rfl, good_at 50 (by decide +kernel) rfl, good_at 641 (by decide +kernel) rfl, ⟨by decide +kernel, by decide +kernel, by decide +kernel⟩, TX2, 12, rfl⟩
theorem cvX4_276 : CV RX4 276 yX4_countOf cX4_countOf 2 (some .int) 1 4 := ⟨good_at 627 (by decide +kernel) rfl, good_at 629 (by decide +kernel) rfl, good_at 14 (by decide +kernel) rfl, good_at 48 (by decide +kernel) rfl, good_at 630 (by decide +kernel) rfl, ⟨by decide +kernel, by decide +kernel, by decide +kernel⟩, TX4, 9, rfl⟩
theorem flX4_35 : FL RX4 35 4 5 := ⟨RX4, TX4, 9, rfl, by decide, inX4, good_at 193 (by decide +kernel) rfl⟩
theorem klX4_279 : Cond.constantLong RX4 279 (17) ∈ lw_good := good_at 655 (by decide +kernel) rfl
theorem klX4_281 : Cond.constantLong RX4 281 (31) ∈ lw_good := good_at 656 (by decide +kernel) rfl
theorem klX0_25 : Cond.constantLong RX0 25 (31) ∈ lw_good := good_at 661 (by decide +kernel) rfl
theorem cvX4_283 : CV RX4 283 yX0_digestFrom cX0_digestFrom 6 (some .long) 1 0 := ⟨good_at 657 (by decide +kernel) rfl, good_at 658 (by decide +kernel) rfl, good_at 659 (by decide +kernel) rfl, good_at 52 (by decide +kernel) rfl, good_at 660 (by decide +kernel) rfl, ⟨by decide +kernel, by decide +kernel, by decide +kernel⟩, TX0, 2, rfl⟩
theorem klX5_69 : Cond.constantLong RX5 69 (5) ∈ lw_good := good_at 761 (by decide +kernel) rfl
theorem csX5_71 : CS RX5 71 yX5_in cX5_in 6 (some .boolean) 3 := ⟨good_at 762 (by decide +kernel) rfl, good_at 763 (by decide +kernel) rfl, good_at 53 (by decide +kernel) rfl, good_at 764 (by decide +kernel) rfl, ⟨by decide +kernel, by decide +kernel, by decide +kernel⟩⟩
theorem csX5_77 : CS RX5 77 yX5_isRow cX5_isRow 1 (some .boolean) 1 := ⟨good_at 758 (by decide +kernel) rfl, good_at 759 (by decide +kernel) rfl, good_at 53 (by decide +kernel) rfl, good_at 760 (by decide +kernel) rfl, ⟨by decide +kernel, by decide +kernel, by decide +kernel⟩⟩
theorem lm_0 : layM[0]? = some (.inl (5, [3, 4, 5, 6, 0, 1, 1, 0, 7, 0, 8, 9, 10, 11, 12, 13, 0, 14, 0, 0, 0, 0, 0, 15, 0, 16, 17])) := rfl
theorem flX5_13 : FL RX5 13 5 1 := ⟨RX5, TX5, 27, rfl, by decide, inX5, good_at 673 (by decide +kernel) rfl⟩
theorem lm_2 : layM[2]? = some (.inr (.inl (0, 6))) := rfl
theorem fpX5_62 : FP RX5 62 5 7 .int := ⟨RX5, TX5, 27, tyX5, rfl, by decide, inX5, good_at 679 (by decide +kernel) rfl, tyX5_ok, nmX5, rfl, by decide +kernel⟩
theorem flX5_26 : FL RX5 26 5 8 := ⟨RX5, TX5, 27, rfl, by decide, inX5, good_at 680 (by decide +kernel) rfl⟩
theorem lm_5 : layM[5]? = some (.inr (.inl (0, 6))) := rfl
theorem cvX5_81 : CV RX5 81 yX5_found cX5_found 2 (some .int) 1 5 := ⟨good_at 765 (by decide +kernel) rfl, good_at 767 (by decide +kernel) rfl, good_at 17 (by decide +kernel) rfl, good_at 53 (by decide +kernel) rfl, good_at 768 (by decide +kernel) rfl, ⟨by decide +kernel, by decide +kernel, by decide +kernel⟩, TX5, 27, rfl⟩
theorem flX5_7 : FL RX5 7 5 0 := ⟨RX5, TX5, 27, rfl, by decide, inX5, good_at 672 (by decide +kernel) rfl⟩
theorem lm_1 : layM[1]? = some (.inr (.inl (0, 240))) := rfl
theorem fpX5_66 : FP RX5 66 5 4 .int := ⟨RX5, TX5, 27, tyX5, rfl, by decide, inX5, good_at 676 (by decide +kernel) rfl, tyX5_ok, nmX5, rfl, by decide +kernel⟩
theorem cvX5_85 : CV RX5 85 yX5_tell cX5_tell 2 (some .int) 1 5 := ⟨good_at 773 (by decide +kernel) rfl, good_at 775 (by decide +kernel) rfl, good_at 18 (by decide +kernel) rfl, good_at 53 (by decide +kernel) rfl, good_at 776 (by decide +kernel) rfl, ⟨by decide +kernel, by decide +kernel, by decide +kernel⟩, TX5, 27, rfl⟩
theorem klX5_75 : Cond.constantLong RX5 75 (3) ∈ lw_good := good_at 800 (by decide +kernel) rfl
theorem csX5_88 : CS RX5 88 yX5_isText cX5_isText 1 (some .boolean) 1 := ⟨good_at 797 (by decide +kernel) rfl, good_at 798 (by decide +kernel) rfl, good_at 53 (by decide +kernel) rfl, good_at 799 (by decide +kernel) rfl, ⟨by decide +kernel, by decide +kernel, by decide +kernel⟩⟩
theorem flX5_19 : FL RX5 19 5 3 := ⟨RX5, TX5, 27, rfl, by decide, inX5, good_at 675 (by decide +kernel) rfl⟩
theorem lm_4 : layM[4]? = some (.inr (.inl (0, 4))) := rfl
theorem flX5_16 : FL RX5 16 5 2 := ⟨RX5, TX5, 27, rfl, by decide, inX5, good_at 674 (by decide +kernel) rfl⟩
theorem lm_3 : layM[3]? = some (.inr (.inl (0, 240))) := rfl
theorem fpX5_100 : FP RX5 100 5 20 .int := ⟨RX5, TX5, 27, tyX5, rfl, by decide, inX5, good_at 692 (by decide +kernel) rfl, tyX5_ok, nmX5, rfl, by decide +kernel⟩
theorem fpX5_97 : FP RX5 97 5 19 .int := ⟨RX5, TX5, 27, tyX5, rfl, by decide, inX5, good_at 691 (by decide +kernel) rfl, tyX5_ok, nmX5, rfl, by decide +kernel⟩
theorem fpX5_94 : FP RX5 94 5 18 .int := ⟨RX5, TX5, 27, tyX5, rfl, by decide, inX5, good_at 690 (by decide +kernel) rfl, tyX5_ok, nmX5, rfl, by decide +kernel⟩
theorem fpX5_113 : FP RX5 113 5 22 .int := ⟨RX5, TX5, 27, tyX5, rfl, by decide, inX5, good_at 694 (by decide +kernel) rfl, tyX5_ok, nmX5, rfl, by decide +kernel⟩
theorem flX5_94 : FL RX5 94 5 18 := ⟨RX5, TX5, 27, rfl, by decide, inX5, good_at 690 (by decide +kernel) rfl⟩
theorem flX5_97 : FL RX5 97 5 19 := ⟨RX5, TX5, 27, rfl, by decide, inX5, good_at 691 (by decide +kernel) rfl⟩
theorem flX5_100 : FL RX5 100 5 20 := ⟨RX5, TX5, 27, rfl, by decide, inX5, good_at 692 (by decide +kernel) rfl⟩
theorem cvX5_103 : CV RX5 103 yX5_here cX5_here 1 (some .int) 0 5 := ⟨good_at 817 (by decide +kernel) rfl, good_at 819 (by decide +kernel) rfl, good_at 21 (by decide +kernel) rfl, good_at 53 (by decide +kernel) rfl, good_at 820 (by decide +kernel) rfl, ⟨by decide +kernel, by decide +kernel, by decide +kernel⟩, TX5, 27, rfl⟩
theorem cvX5_120 : CV RX5 120 yX5_skips cX5_skips 1 none 0 5 := ⟨good_at 813 (by decide +kernel) rfl, good_at 815 (by decide +kernel) rfl, good_at 20 (by decide +kernel) rfl, good_at 53 (by decide +kernel) rfl, good_at 816 (by decide +kernel) rfl, ⟨by decide +kernel, by decide +kernel, by decide +kernel⟩, TX5, 27, rfl⟩
theorem csX5_110 : CS RX5 110 yX5_kindOf cX5_kindOf 1 (some .int) 1 := ⟨good_at 825 (by decide +kernel) rfl, good_at 826 (by decide +kernel) rfl, good_at 53 (by decide +kernel) rfl, good_at 827 (by decide +kernel) rfl, ⟨by decide +kernel, by decide +kernel, by decide +kernel⟩⟩
theorem flX5_113 : FL RX5 113 5 22 := ⟨RX5, TX5, 27, rfl, by decide, inX5, good_at 694 (by decide +kernel) rfl⟩
theorem flX5_50 : FL RX5 50 5 23 := ⟨RX5, TX5, 27, rfl, by decide, inX5, good_at 695 (by decide +kernel) rfl⟩
theorem lm_13 : layM[13]? = some (.inr (.inl (0, 40))) := rfl
theorem fpX5_107 : FP RX5 107 5 21 .int := ⟨RX5, TX5, 27, tyX5, rfl, by decide, inX5, good_at 693 (by decide +kernel) rfl, tyX5_ok, nmX5, rfl, by decide +kernel⟩
theorem cvX5_116 : CV RX5 116 yX5_isFigure cX5_isFigure 3 (some .boolean) 2 5 := ⟨good_at 828 (by decide +kernel) rfl, good_at 830 (by decide +kernel) rfl, good_at 23 (by decide +kernel) rfl, good_at 53 (by decide +kernel) rfl, good_at 831 (by decide +kernel) rfl, ⟨by decide +kernel, by decide +kernel, by decide +kernel⟩, TX5, 27, rfl⟩
theorem flX5_107 : FL RX5 107 5 21 := ⟨RX5, TX5, 27, rfl, by decide, inX5, good_at 693 (by decide +kernel) rfl⟩
theorem cvX5_123 : CV RX5 123 yX5_readsPin cX5_readsPin 3 (some .boolean) 0 5 := ⟨good_at 821 (by decide +kernel) rfl, good_at 823 (by decide +kernel) rfl, good_at 22 (by decide +kernel) rfl, good_at 53 (by decide +kernel) rfl, good_at 824 (by decide +kernel) rfl, ⟨by decide +kernel, by decide +kernel, by decide +kernel⟩, TX5, 27, rfl⟩
theorem cvX5_127 : CV RX5 127 yX5_reads cX5_reads 3 (some .int) 1 5 := ⟨good_at 809 (by decide +kernel) rfl, good_at 811 (by decide +kernel) rfl, good_at 19 (by decide +kernel) rfl, good_at 53 (by decide +kernel) rfl, good_at 812 (by decide +kernel) rfl, ⟨by decide +kernel, by decide +kernel, by decide +kernel⟩, TX5, 27, rfl⟩
theorem fpX5_130 : FP RX5 130 5 9 .int := ⟨RX5, TX5, 27, tyX5, rfl, by decide, inX5, good_at 681 (by decide +kernel) rfl, tyX5_ok, nmX5, rfl, by decide +kernel⟩
theorem flX5_130 : FL RX5 130 5 9 := ⟨RX5, TX5, 27, rfl, by decide, inX5, good_at 681 (by decide +kernel) rfl⟩
theorem flX5_41 : FL RX5 41 5 14 := ⟨RX5, TX5, 27, rfl, by decide, inX5, good_at 686 (by decide +kernel) rfl⟩
theorem lm_10 : layM[10]? = some (.inr (.inl (0, 9))) := rfl
theorem fpX5_91 : FP RX5 91 5 16 .int := ⟨RX5, TX5, 27, tyX5, rfl, by decide, inX5, good_at 688 (by decide +kernel) rfl, tyX5_ok, nmX5, rfl, by decide +kernel⟩
theorem flX5_47 : FL RX5 47 5 17 := ⟨RX5, TX5, 27, rfl, by decide, inX5, good_at 689 (by decide +kernel) rfl⟩
theorem lm_12 : layM[12]? = some (.inr (.inl (0, 1110))) := rfl
theorem cvX5_59 : CV RX5 59 yX5_forgets cX5_forgets 2 none 0 5 := ⟨good_at 668 (by decide +kernel) rfl, good_at 670 (by decide +kernel) rfl, good_at 16 (by decide +kernel) rfl, good_at 53 (by decide +kernel) rfl, good_at 671 (by decide +kernel) rfl, ⟨by decide +kernel, by decide +kernel, by decide +kernel⟩, TX5, 27, rfl⟩
theorem flX5_29 : FL RX5 29 5 10 := ⟨RX5, TX5, 27, rfl, by decide, inX5, good_at 682 (by decide +kernel) rfl⟩
theorem lm_6 : layM[6]? = some (.inr (.inl (0, 8))) := rfl
theorem flX5_32 : FL RX5 32 5 11 := ⟨RX5, TX5, 27, rfl, by decide, inX5, good_at 683 (by decide +kernel) rfl⟩
theorem lm_7 : layM[7]? = some (.inr (.inl (0, 8))) := rfl
theorem flX5_35 : FL RX5 35 5 12 := ⟨RX5, TX5, 27, rfl, by decide, inX5, good_at 684 (by decide +kernel) rfl⟩
theorem lm_8 : layM[8]? = some (.inr (.inl (0, 8))) := rfl
theorem flX5_38 : FL RX5 38 5 13 := ⟨RX5, TX5, 27, rfl, by decide, inX5, good_at 685 (by decide +kernel) rfl⟩
theorem lm_9 : layM[9]? = some (.inr (.inl (0, 8))) := rfl
theorem cvX5_153 : CV RX5 153 yX5_isPin cX5_isPin 2 (some .boolean) 1 5 := ⟨good_at 840 (by decide +kernel) rfl, good_at 842 (by decide +kernel) rfl, good_at 24 (by decide +kernel) rfl, good_at 53 (by decide +kernel) rfl, good_at 843 (by decide +kernel) rfl, ⟨by decide +kernel, by decide +kernel, by decide +kernel⟩, TX5, 27, rfl⟩
theorem klX5_156 : Cond.constantLong RX5 156 (7) ∈ lw_good := good_at 844 (by decide +kernel) rfl
theorem cvX5_133 : CV RX5 133 yX5_lies cX5_lies 2 (some .boolean) 1 5 := ⟨good_at 845 (by decide +kernel) rfl, good_at 847 (by decide +kernel) rfl, good_at 25 (by decide +kernel) rfl, good_at 53 (by decide +kernel) rfl, good_at 848 (by decide +kernel) rfl, ⟨by decide +kernel, by decide +kernel, by decide +kernel⟩, TX5, 27, rfl⟩
theorem cvX5_136 : CV RX5 136 yX5_hoursOf cX5_hoursOf 2 (some .int) 1 5 := ⟨good_at 849 (by decide +kernel) rfl, good_at 851 (by decide +kernel) rfl, good_at 26 (by decide +kernel) rfl, good_at 53 (by decide +kernel) rfl, good_at 852 (by decide +kernel) rfl, ⟨by decide +kernel, by decide +kernel, by decide +kernel⟩, TX5, 27, rfl⟩
theorem csX5_139 : CS RX5 139 yX5_has cX5_has 2 (some .boolean) 2 := ⟨good_at 861 (by decide +kernel) rfl, good_at 862 (by decide +kernel) rfl, good_at 53 (by decide +kernel) rfl, good_at 863 (by decide +kernel) rfl, ⟨by decide +kernel, by decide +kernel, by decide +kernel⟩⟩
theorem cvX5_142 : CV RX5 142 yX5_worthBy cX5_worthBy 5 (some .int) 3 5 := ⟨good_at 857 (by decide +kernel) rfl, good_at 859 (by decide +kernel) rfl, good_at 28 (by decide +kernel) rfl, good_at 53 (by decide +kernel) rfl, good_at 860 (by decide +kernel) rfl, ⟨by decide +kernel, by decide +kernel, by decide +kernel⟩, TX5, 27, rfl⟩
theorem cvX5_146 : CV RX5 146 yX5_worthOf cX5_worthOf 2 (some .int) 1 5 := ⟨good_at 853 (by decide +kernel) rfl, good_at 855 (by decide +kernel) rfl, good_at 27 (by decide +kernel) rfl, good_at 53 (by decide +kernel) rfl, good_at 856 (by decide +kernel) rfl, ⟨by decide +kernel, by decide +kernel, by decide +kernel⟩, TX5, 27, rfl⟩
theorem csX5_158 : CS RX5 158 yX5_isOf cX5_isOf 2 (some .boolean) 2 := ⟨good_at 868 (by decide +kernel) rfl, good_at 869 (by decide +kernel) rfl, good_at 53 (by decide +kernel) rfl, good_at 870 (by decide +kernel) rfl, ⟨by decide +kernel, by decide +kernel, by decide +kernel⟩⟩
theorem klX5_161 : Cond.constantLong RX5 161 (9) ∈ lw_good := good_at 875 (by decide +kernel) rfl
theorem flX5_91 : FL RX5 91 5 16 := ⟨RX5, TX5, 27, rfl, by decide, inX5, good_at 688 (by decide +kernel) rfl⟩
theorem flX5_44 : FL RX5 44 5 15 := ⟨RX5, TX5, 27, rfl, by decide, inX5, good_at 687 (by decide +kernel) rfl⟩
theorem lm_11 : layM[11]? = some (.inr (.inl (0, 360))) := rfl
theorem csX5_163 : CS RX5 163 yX5_copies cX5_copies 6 none 5 := ⟨good_at 884 (by decide +kernel) rfl, good_at 885 (by decide +kernel) rfl, good_at 53 (by decide +kernel) rfl, good_at 886 (by decide +kernel) rfl, ⟨by decide +kernel, by decide +kernel, by decide +kernel⟩⟩
theorem cvX5_167 : CV RX5 167 yX5_remember cX5_remember 1 none 0 5 := ⟨good_at 880 (by decide +kernel) rfl, good_at 882 (by decide +kernel) rfl, good_at 29 (by decide +kernel) rfl, good_at 53 (by decide +kernel) rfl, good_at 883 (by decide +kernel) rfl, ⟨by decide +kernel, by decide +kernel, by decide +kernel⟩, TX5, 27, rfl⟩
theorem cvX5_170 : CV RX5 170 yX5_those cX5_those 4 (some .int) 1 5 := ⟨good_at 891 (by decide +kernel) rfl, good_at 893 (by decide +kernel) rfl, good_at 30 (by decide +kernel) rfl, good_at 53 (by decide +kernel) rfl, good_at 894 (by decide +kernel) rfl, ⟨by decide +kernel, by decide +kernel, by decide +kernel⟩, TX5, 27, rfl⟩
theorem csX5_173 : CS RX5 173 yX5_bits cX5_bits 3 (some .int) 1 := ⟨good_at 895 (by decide +kernel) rfl, good_at 896 (by decide +kernel) rfl, good_at 53 (by decide +kernel) rfl, good_at 897 (by decide +kernel) rfl, ⟨by decide +kernel, by decide +kernel, by decide +kernel⟩⟩
theorem cvX5_176 : CV RX5 176 yX5_refuses cX5_refuses 2 (some .int) 1 5 := ⟨good_at 906 (by decide +kernel) rfl, good_at 908 (by decide +kernel) rfl, good_at 31 (by decide +kernel) rfl, good_at 53 (by decide +kernel) rfl, good_at 909 (by decide +kernel) rfl, ⟨by decide +kernel, by decide +kernel, by decide +kernel⟩, TX5, 27, rfl⟩
theorem klX5_179 : Cond.constantLong RX5 179 (2) ∈ lw_good := good_at 918 (by decide +kernel) rfl
theorem cvX5_149 : CV RX5 149 yX5_hoursAll cX5_hoursAll 6 (some .int) 2 5 := ⟨good_at 927 (by decide +kernel) rfl, good_at 929 (by decide +kernel) rfl, good_at 32 (by decide +kernel) rfl, good_at 53 (by decide +kernel) rfl, good_at 930 (by decide +kernel) rfl, ⟨by decide +kernel, by decide +kernel, by decide +kernel⟩, TX5, 27, rfl⟩
theorem cvX5_181 : CV RX5 181 yX5_answer cX5_answer 3 (some .int) 2 5 := ⟨good_at 931 (by decide +kernel) rfl, good_at 933 (by decide +kernel) rfl, good_at 33 (by decide +kernel) rfl, good_at 53 (by decide +kernel) rfl, good_at 934 (by decide +kernel) rfl, ⟨by decide +kernel, by decide +kernel, by decide +kernel⟩, TX5, 27, rfl⟩
theorem cvX5_185 : CV RX5 185 yX5_worthAll cX5_worthAll 4 (some .int) 1 5 := ⟨good_at 939 (by decide +kernel) rfl, good_at 941 (by decide +kernel) rfl, good_at 34 (by decide +kernel) rfl, good_at 53 (by decide +kernel) rfl, good_at 942 (by decide +kernel) rfl, ⟨by decide +kernel, by decide +kernel, by decide +kernel⟩, TX5, 27, rfl⟩
theorem cvX5_188 : CV RX5 188 yX5_clash cX5_clash 2 (some .boolean) 1 5 := ⟨good_at 947 (by decide +kernel) rfl, good_at 949 (by decide +kernel) rfl, good_at 35 (by decide +kernel) rfl, good_at 53 (by decide +kernel) rfl, good_at 950 (by decide +kernel) rfl, ⟨by decide +kernel, by decide +kernel, by decide +kernel⟩, TX5, 27, rfl⟩
theorem cvX5_191 : CV RX5 191 yX5_bestOf cX5_bestOf 4 (some .int) 1 5 := ⟨good_at 955 (by decide +kernel) rfl, good_at 957 (by decide +kernel) rfl, good_at 36 (by decide +kernel) rfl, good_at 53 (by decide +kernel) rfl, good_at 958 (by decide +kernel) rfl, ⟨by decide +kernel, by decide +kernel, by decide +kernel⟩, TX5, 27, rfl⟩
theorem cvX5_194 : CV RX5 194 yX5_row cX5_row 4 (some .int) 2 5 := ⟨good_at 959 (by decide +kernel) rfl, good_at 755 (by decide +kernel) rfl, good_at 756 (by decide +kernel) rfl, good_at 53 (by decide +kernel) rfl, good_at 757 (by decide +kernel) rfl, ⟨by decide +kernel, by decide +kernel, by decide +kernel⟩, TX5, 27, rfl⟩
theorem fpX5_197 : FP RX5 197 5 24 .int := ⟨RX5, TX5, 27, tyX5, rfl, by decide, inX5, good_at 696 (by decide +kernel) rfl, tyX5_ok, nmX5, rfl, by decide +kernel⟩
theorem csX5_200 : CS RX5 200 yX5_far cX5_far 2 (some .int) 2 := ⟨good_at 968 (by decide +kernel) rfl, good_at 969 (by decide +kernel) rfl, good_at 53 (by decide +kernel) rfl, good_at 970 (by decide +kernel) rfl, ⟨by decide +kernel, by decide +kernel, by decide +kernel⟩⟩
theorem cvX5_203 : CV RX5 203 yX5_steps cX5_steps 6 (some .int) 1 5 := ⟨good_at 964 (by decide +kernel) rfl, good_at 966 (by decide +kernel) rfl, good_at 37 (by decide +kernel) rfl, good_at 53 (by decide +kernel) rfl, good_at 967 (by decide +kernel) rfl, ⟨by decide +kernel, by decide +kernel, by decide +kernel⟩, TX5, 27, rfl⟩
theorem flX5_197 : FL RX5 197 5 24 := ⟨RX5, TX5, 27, rfl, by decide, inX5, good_at 696 (by decide +kernel) rfl⟩
theorem klX5_206 : Cond.constantLong RX5 206 (20) ∈ lw_good := good_at 975 (by decide +kernel) rfl
theorem klX5_208 : Cond.constantLong RX5 208 (-20) ∈ lw_good := good_at 988 (by decide +kernel) rfl
theorem klX5_210 : Cond.constantLong RX5 210 (60) ∈ lw_good := good_at 989 (by decide +kernel) rfl
theorem cvX5_212 : CV RX5 212 yX5_refusesPairs cX5_refusesPairs 3 (some .int) 1 5 := ⟨good_at 984 (by decide +kernel) rfl, good_at 986 (by decide +kernel) rfl, good_at 38 (by decide +kernel) rfl, good_at 53 (by decide +kernel) rfl, good_at 987 (by decide +kernel) rfl, ⟨by decide +kernel, by decide +kernel, by decide +kernel⟩, TX5, 27, rfl⟩
theorem cvX5_215 : CV RX5 215 yX5_kindsOf cX5_kindsOf 7 (some .int) 2 5 := ⟨good_at 990 (by decide +kernel) rfl, good_at 992 (by decide +kernel) rfl, good_at 39 (by decide +kernel) rfl, good_at 53 (by decide +kernel) rfl, good_at 993 (by decide +kernel) rfl, ⟨by decide +kernel, by decide +kernel, by decide +kernel⟩, TX5, 27, rfl⟩
theorem klX5_219 : Cond.constantLong RX5 219 (4) ∈ lw_good := good_at 1006 (by decide +kernel) rfl
theorem flX5_53 : FL RX5 53 5 25 := ⟨RX5, TX5, 27, rfl, by decide, inX5, good_at 697 (by decide +kernel) rfl⟩
theorem kiX5_218 : Cond.constant RX5 218 (-1000000) ∈ lw_good := good_at 1011 (by decide +kernel) rfl
theorem cvX5_221 : CV RX5 221 yX5_played cX5_played 11 (some .int) 2 5 := ⟨good_at 1007 (by decide +kernel) rfl, good_at 1009 (by decide +kernel) rfl, good_at 40 (by decide +kernel) rfl, good_at 53 (by decide +kernel) rfl, good_at 1010 (by decide +kernel) rfl, ⟨by decide +kernel, by decide +kernel, by decide +kernel⟩, TX5, 27, rfl⟩
theorem lm_14 : layM[14]? = some (.inr (.inl (0, 6561))) := rfl
theorem klX5_232 : Cond.constantLong RX5 232 (200) ∈ lw_good := good_at 1016 (by decide +kernel) rfl
theorem klX5_230 : Cond.constantLong RX5 230 (12) ∈ lw_good := good_at 1017 (by decide +kernel) rfl
theorem flX5_56 : FL RX5 56 5 26 := ⟨RX5, TX5, 27, rfl, by decide, inX5, good_at 698 (by decide +kernel) rfl⟩
theorem lm_15 : layM[15]? = some (.inr (.inl (0, 256))) := rfl
theorem cvX5_227 : CV RX5 227 yX5_laysBests cX5_laysBests 5 none 0 5 := ⟨good_at 1022 (by decide +kernel) rfl, good_at 1024 (by decide +kernel) rfl, good_at 42 (by decide +kernel) rfl, good_at 53 (by decide +kernel) rfl, good_at 1025 (by decide +kernel) rfl, ⟨by decide +kernel, by decide +kernel, by decide +kernel⟩, TX5, 27, rfl⟩
theorem cvX5_234 : CV RX5 234 yX5_ways cX5_ways 11 (some .long) 2 5 := ⟨good_at 1018 (by decide +kernel) rfl, good_at 1020 (by decide +kernel) rfl, good_at 41 (by decide +kernel) rfl, good_at 53 (by decide +kernel) rfl, good_at 1021 (by decide +kernel) rfl, ⟨by decide +kernel, by decide +kernel, by decide +kernel⟩, TX5, 27, rfl⟩
theorem cvX5_238 : CV RX5 238 yX5_allWays cX5_allWays 4 (some .long) 0 5 := ⟨good_at 1026 (by decide +kernel) rfl, good_at 1028 (by decide +kernel) rfl, good_at 43 (by decide +kernel) rfl, good_at 53 (by decide +kernel) rfl, good_at 1029 (by decide +kernel) rfl, ⟨by decide +kernel, by decide +kernel, by decide +kernel⟩, TX5, 27, rfl⟩
theorem fpX5_224 : FP RX5 224 5 5 .long := ⟨RX5, TX5, 27, tyX5, rfl, by decide, inX5, good_at 677 (by decide +kernel) rfl, tyX5_ok, nmX5, rfl, by decide +kernel⟩
theorem fpX5_22 : FP RX5 22 5 6 .long := ⟨RX5, TX5, 27, tyX5, rfl, by decide, inX5, good_at 678 (by decide +kernel) rfl, tyX5_ok, nmX5, rfl, by decide +kernel⟩
theorem cvX5_242 : CV RX5 242 yX5_fraction cX5_fraction 11 (some .int) 2 5 := ⟨good_at 1030 (by decide +kernel) rfl, good_at 1032 (by decide +kernel) rfl, good_at 44 (by decide +kernel) rfl, good_at 53 (by decide +kernel) rfl, good_at 1033 (by decide +kernel) rfl, ⟨by decide +kernel, by decide +kernel, by decide +kernel⟩, TX5, 27, rfl⟩
theorem klX5_246 : Cond.constantLong RX5 246 (2147483646) ∈ lw_good := good_at 1042 (by decide +kernel) rfl
theorem klX5_248 : Cond.constantLong RX5 248 (48271) ∈ lw_good := good_at 1043 (by decide +kernel) rfl
theorem klX5_250 : Cond.constantLong RX5 250 (2147483647) ∈ lw_good := good_at 1044 (by decide +kernel) rfl
theorem cvX5_252 : CV RX5 252 yX5_lot cX5_lot 4 none 1 5 := ⟨good_at 1045 (by decide +kernel) rfl, good_at 1047 (by decide +kernel) rfl, good_at 45 (by decide +kernel) rfl, good_at 53 (by decide +kernel) rfl, good_at 1048 (by decide +kernel) rfl, ⟨by decide +kernel, by decide +kernel, by decide +kernel⟩, TX5, 27, rfl⟩
theorem flX5_66 : FL RX5 66 5 4 := ⟨RX5, TX5, 27, rfl, by decide, inX5, good_at 676 (by decide +kernel) rfl⟩
theorem flX5_224 : FL RX5 224 5 5 := ⟨RX5, TX5, 27, rfl, by decide, inX5, good_at 677 (by decide +kernel) rfl⟩
theorem flX5_22 : FL RX5 22 5 6 := ⟨RX5, TX5, 27, rfl, by decide, inX5, good_at 678 (by decide +kernel) rfl⟩
theorem csX5_256 : CS RX5 256 yX5_there cX5_there 5 (some .int) 3 := ⟨good_at 1065 (by decide +kernel) rfl, good_at 1066 (by decide +kernel) rfl, good_at 53 (by decide +kernel) rfl, good_at 1067 (by decide +kernel) rfl, ⟨by decide +kernel, by decide +kernel, by decide +kernel⟩⟩
theorem cvX5_260 : CV RX5 260 yX5_ofKind cX5_ofKind 4 (some .int) 1 5 := ⟨good_at 1068 (by decide +kernel) rfl, good_at 1070 (by decide +kernel) rfl, good_at 46 (by decide +kernel) rfl, good_at 53 (by decide +kernel) rfl, good_at 1071 (by decide +kernel) rfl, ⟨by decide +kernel, by decide +kernel, by decide +kernel⟩, TX5, 27, rfl⟩
theorem flX5_62 : FL RX5 62 5 7 := ⟨RX5, TX5, 27, rfl, by decide, inX5, good_at 679 (by decide +kernel) rfl⟩
theorem klX5_263 : Cond.constantLong RX5 263 (17) ∈ lw_good := good_at 1084 (by decide +kernel) rfl
theorem klX5_265 : Cond.constantLong RX5 265 (31) ∈ lw_good := good_at 1085 (by decide +kernel) rfl
theorem cvX5_267 : CV RX5 267 yX5_count cX5_count 2 (some .int) 1 5 := ⟨good_at 1086 (by decide +kernel) rfl, good_at 1062 (by decide +kernel) rfl, good_at 1063 (by decide +kernel) rfl, good_at 53 (by decide +kernel) rfl, good_at 1064 (by decide +kernel) rfl, ⟨by decide +kernel, by decide +kernel, by decide +kernel⟩, TX5, 27, rfl⟩
end
section
theorem dX4_rowAt_0 : decode cX4_rowAt 0 = .ok (.iload_n 1, 1) := by decide +kernel
theorem dX4_rowAt_1 : decode cX4_rowAt 1 = .ok (.ifCond .lt 18, 3) := by decide +kernel
theorem dX4_rowAt_4 : decode cX4_rowAt 4 = .ok (.iload_n 1, 1) := by decide +kernel
theorem dX4_rowAt_5 : decode cX4_rowAt 5 = .ok (.bipush 6, 2) := by decide +kernel
theorem dX4_rowAt_7 : decode cX4_rowAt 7 = .ok (.if_icmp .ge 12, 3) := by decide +kernel
theorem dX4_rowAt_10 : decode cX4_rowAt 10 = .ok (.aload_n 0, 1) := by decide +kernel
theorem dX4_rowAt_11 : decode cX4_rowAt 11 = .ok (.getfield 11, 3) := by decide +kernel
theorem dX4_rowAt_14 : decode cX4_rowAt 14 = .ok (.iload_n 1, 1) := by decide +kernel
theorem dX4_rowAt_15 : decode cX4_rowAt 15 = .ok (.aaload, 1) := by decide +kernel
theorem dX4_rowAt_16 : decode cX4_rowAt 16 = .ok (.goto 4, 3) := by decide +kernel
theorem dX4_rowAt_19 : decode cX4_rowAt 19 = .ok (.aconst_null, 1) := by decide +kernel
theorem dX4_rowAt_20 : decode cX4_rowAt 20 = .ok (.areturn, 1) := by decide +kernel
theorem dX4_makeCells_0 : decode cX4_makeCells 0 = .ok (.aload_n 1, 1) := by decide +kernel
theorem dX4_makeCells_1 : decode cX4_makeCells 1 = .ok (.ifnull 8, 3) := by decide +kernel
theorem dX4_makeCells_4 : decode cX4_makeCells 4 = .ok (.iload_n 2, 1) := by decide +kernel
theorem dX4_makeCells_5 : decode cX4_makeCells 5 = .ok (.iload_n 3, 1) := by decide +kernel
theorem dX4_makeCells_6 : decode cX4_makeCells 6 = .ok (.if_icmp .le 5, 3) := by decide +kernel
theorem dX4_makeCells_9 : decode cX4_makeCells 9 = .ok (.iconst (-1), 1) := by decide +kernel
theorem dX4_makeCells_10 : decode cX4_makeCells 10 = .ok (.ireturn, 1) := by decide +kernel
theorem dX4_makeCells_11 : decode cX4_makeCells 11 = .ok (.iload_n 2, 1) := by decide +kernel
theorem dX4_makeCells_12 : decode cX4_makeCells 12 = .ok (.ifCond .ge 9, 3) := by decide +kernel
theorem dX4_makeCells_15 : decode cX4_makeCells 15 = .ok (.aload_n 0, 1) := by decide +kernel
theorem dX4_makeCells_16 : decode cX4_makeCells 16 = .ok (.iconst 5, 1) := by decide +kernel
theorem dX4_makeCells_17 : decode cX4_makeCells 17 = .ok (.invokevirtual 78, 3) := by decide +kernel
theorem dX4_makeCells_20 : decode cX4_makeCells 20 = .ok (.ireturn, 1) := by decide +kernel
theorem dX4_makeCells_21 : decode cX4_makeCells 21 = .ok (.aload_n 1, 1) := by decide +kernel
theorem dX4_makeCells_22 : decode cX4_makeCells 22 = .ok (.iload_n 2, 1) := by decide +kernel
theorem dX4_makeCells_23 : decode cX4_makeCells 23 = .ok (.iload 4, 2) := by decide +kernel
theorem dX4_makeCells_25 : decode cX4_makeCells 25 = .ok (.invokevirtual 287, 3) := by decide +kernel
theorem dX4_makeCells_28 : decode cX4_makeCells 28 = .ok (.iload_n 2, 1) := by decide +kernel
theorem dX4_makeCells_29 : decode cX4_makeCells 29 = .ok (.ireturn, 1) := by decide +kernel
theorem dX0_begin_0 : decode cX0_begin 0 = .ok (.aload_n 0, 1) := by decide +kernel
theorem dX0_begin_1 : decode cX0_begin 1 = .ok (.iload_n 1, 1) := by decide +kernel
theorem dX0_begin_2 : decode cX0_begin 2 = .ok (.aload_n 0, 1) := by decide +kernel
theorem dX0_begin_3 : decode cX0_begin 3 = .ok (.getfield 15, 3) := by decide +kernel
theorem dX0_begin_6 : decode cX0_begin 6 = .ok (.arraylength, 1) := by decide +kernel
theorem dX0_begin_7 : decode cX0_begin 7 = .ok (.invokestatic 19, 3) := by decide +kernel
theorem dX0_begin_10 : decode cX0_begin 10 = .ok (.putfield 9, 3) := by decide +kernel
theorem dX0_begin_13 : decode cX0_begin 13 = .ok (.iconst 0, 1) := by decide +kernel
theorem dX0_begin_14 : decode cX0_begin 14 = .ok (.istore_n 3, 1) := by decide +kernel
theorem dX0_begin_15 : decode cX0_begin 15 = .ok (.iload_n 3, 1) := by decide +kernel
theorem dX0_begin_16 : decode cX0_begin 16 = .ok (.aload_n 0, 1) := by decide +kernel
theorem dX0_begin_17 : decode cX0_begin 17 = .ok (.getfield 9, 3) := by decide +kernel
theorem dX0_begin_20 : decode cX0_begin 20 = .ok (.if_icmp .ge 16, 3) := by decide +kernel
theorem dX0_begin_23 : decode cX0_begin 23 = .ok (.aload_n 0, 1) := by decide +kernel
theorem dX0_begin_24 : decode cX0_begin 24 = .ok (.getfield 15, 3) := by decide +kernel
theorem dX0_begin_27 : decode cX0_begin 27 = .ok (.iload_n 3, 1) := by decide +kernel
theorem dX0_begin_28 : decode cX0_begin 28 = .ok (.iload_n 2, 1) := by decide +kernel
theorem dX0_begin_29 : decode cX0_begin 29 = .ok (.iastore, 1) := by decide +kernel
theorem dX0_begin_30 : decode cX0_begin 30 = .ok (.iinc 3 1, 3) := by decide +kernel
theorem dX0_begin_33 : decode cX0_begin 33 = .ok (.goto (-18), 3) := by decide +kernel
theorem dX0_begin_36 : decode cX0_begin 36 = .ok (.return_, 1) := by decide +kernel
theorem dX4_find_0 : decode cX4_find 0 = .ok (.aload_n 0, 1) := by decide +kernel
theorem dX4_find_1 : decode cX4_find 1 = .ok (.iload_n 1, 1) := by decide +kernel
theorem dX4_find_2 : decode cX4_find 2 = .ok (.putfield 35, 3) := by decide +kernel
theorem dX4_find_5 : decode cX4_find 5 = .ok (.iload_n 1, 1) := by decide +kernel
theorem dX4_find_6 : decode cX4_find 6 = .ok (.iconst 1, 1) := by decide +kernel
theorem dX4_find_7 : decode cX4_find 7 = .ok (.if_icmp .lt 18, 3) := by decide +kernel
theorem dX4_find_10 : decode cX4_find 10 = .ok (.iload_n 1, 1) := by decide +kernel
theorem dX4_find_11 : decode cX4_find 11 = .ok (.iconst 5, 1) := by decide +kernel
theorem dX4_find_12 : decode cX4_find 12 = .ok (.if_icmp .gt 13, 3) := by decide +kernel
theorem dX4_find_15 : decode cX4_find 15 = .ok (.aload_n 0, 1) := by decide +kernel
theorem dX4_find_16 : decode cX4_find 16 = .ok (.getfield 31, 3) := by decide +kernel
theorem dX4_find_19 : decode cX4_find 19 = .ok (.iload_n 1, 1) := by decide +kernel
theorem dX4_find_20 : decode cX4_find 20 = .ok (.dup2, 1) := by decide +kernel
theorem dX4_find_21 : decode cX4_find 21 = .ok (.iaload, 1) := by decide +kernel
theorem dX4_find_22 : decode cX4_find 22 = .ok (.iconst 1, 1) := by decide +kernel
theorem dX4_find_23 : decode cX4_find 23 = .ok (.iadd, 1) := by decide +kernel
theorem dX4_find_24 : decode cX4_find 24 = .ok (.iastore, 1) := by decide +kernel
theorem dX4_find_25 : decode cX4_find 25 = .ok (.bipush (-3), 2) := by decide +kernel
theorem dX4_find_27 : decode cX4_find 27 = .ok (.ireturn, 1) := by decide +kernel
theorem dX4_row_0 : decode cX4_row 0 = .ok (.aload_n 0, 1) := by decide +kernel
theorem dX4_row_1 : decode cX4_row 1 = .ok (.aload_n 0, 1) := by decide +kernel
theorem dX4_row_2 : decode cX4_row 2 = .ok (.iload_n 1, 1) := by decide +kernel
theorem dX4_row_3 : decode cX4_row 3 = .ok (.invokevirtual 51, 3) := by decide +kernel
theorem dX4_row_6 : decode cX4_row 6 = .ok (.iload_n 2, 1) := by decide +kernel
theorem dX4_row_7 : decode cX4_row 7 = .ok (.bipush 40, 2) := by decide +kernel
theorem dX4_row_9 : decode cX4_row 9 = .ok (.iconst 0, 1) := by decide +kernel
theorem dX4_row_10 : decode cX4_row 10 = .ok (.invokevirtual 55, 3) := by decide +kernel
theorem dX4_row_13 : decode cX4_row 13 = .ok (.ireturn, 1) := by decide +kernel
theorem dX4_refuseMissing_0 : decode cX4_refuseMissing 0 = .ok (.aload_n 1, 1) := by decide +kernel
theorem dX4_refuseMissing_1 : decode cX4_refuseMissing 1 = .ok (.ifnonnull 5, 3) := by decide +kernel
theorem dX4_refuseMissing_4 : decode cX4_refuseMissing 4 = .ok (.iconst (-1), 1) := by decide +kernel
theorem dX4_refuseMissing_5 : decode cX4_refuseMissing 5 = .ok (.ireturn, 1) := by decide +kernel
theorem dX4_refuseMissing_6 : decode cX4_refuseMissing 6 = .ok (.aload_n 1, 1) := by decide +kernel
theorem dX4_refuseMissing_7 : decode cX4_refuseMissing 7 = .ok (.invokevirtual 81, 3) := by decide +kernel
theorem dX4_refuseMissing_10 : decode cX4_refuseMissing 10 = .ok (.ifCond .eq 11, 3) := by decide +kernel
theorem dX4_refuseMissing_13 : decode cX4_refuseMissing 13 = .ok (.aload_n 0, 1) := by decide +kernel
theorem dX4_refuseMissing_14 : decode cX4_refuseMissing 14 = .ok (.iconst 1, 1) := by decide +kernel
theorem dX4_refuseMissing_15 : decode cX4_refuseMissing 15 = .ok (.invokevirtual 78, 3) := by decide +kernel
theorem dX4_refuseMissing_18 : decode cX4_refuseMissing 18 = .ok (.goto 4, 3) := by decide +kernel
theorem dX4_refuseMissing_21 : decode cX4_refuseMissing 21 = .ok (.iconst 0, 1) := by decide +kernel
theorem dX4_refuseMissing_22 : decode cX4_refuseMissing 22 = .ok (.ireturn, 1) := by decide +kernel
theorem dX4_refusePlace_0 : decode cX4_refusePlace 0 = .ok (.aload_n 0, 1) := by decide +kernel
theorem dX4_refusePlace_1 : decode cX4_refusePlace 1 = .ok (.aload_n 1, 1) := by decide +kernel
theorem dX4_refusePlace_2 : decode cX4_refusePlace 2 = .ok (.invokevirtual 71, 3) := by decide +kernel
theorem dX4_refusePlace_5 : decode cX4_refusePlace 5 = .ok (.istore_n 3, 1) := by decide +kernel
theorem dX4_refusePlace_6 : decode cX4_refusePlace 6 = .ok (.aload_n 1, 1) := by decide +kernel
theorem dX4_refusePlace_7 : decode cX4_refusePlace 7 = .ok (.ifnull 7, 3) := by decide +kernel
theorem dX4_refusePlace_10 : decode cX4_refusePlace 10 = .ok (.iload_n 3, 1) := by decide +kernel
theorem dX4_refusePlace_11 : decode cX4_refusePlace 11 = .ok (.ifCond .eq 5, 3) := by decide +kernel
theorem dX4_refusePlace_14 : decode cX4_refusePlace 14 = .ok (.iload_n 3, 1) := by decide +kernel
theorem dX4_refusePlace_15 : decode cX4_refusePlace 15 = .ok (.ireturn, 1) := by decide +kernel
theorem dX4_refusePlace_16 : decode cX4_refusePlace 16 = .ok (.aload_n 1, 1) := by decide +kernel
theorem dX4_refusePlace_17 : decode cX4_refusePlace 17 = .ok (.iload_n 2, 1) := by decide +kernel
theorem dX4_refusePlace_18 : decode cX4_refusePlace 18 = .ok (.invokevirtual 290, 3) := by decide +kernel
theorem dX4_refusePlace_21 : decode cX4_refusePlace 21 = .ok (.ifCond .eq 7, 3) := by decide +kernel
theorem dX4_refusePlace_24 : decode cX4_refusePlace 24 = .ok (.iconst 0, 1) := by decide +kernel
theorem dX4_refusePlace_25 : decode cX4_refusePlace 25 = .ok (.goto 8, 3) := by decide +kernel
theorem dX4_refusePlace_28 : decode cX4_refusePlace 28 = .ok (.aload_n 0, 1) := by decide +kernel
theorem dX4_refusePlace_29 : decode cX4_refusePlace 29 = .ok (.iconst 2, 1) := by decide +kernel
theorem dX4_refusePlace_30 : decode cX4_refusePlace 30 = .ok (.invokevirtual 78, 3) := by decide +kernel
theorem dX4_refusePlace_33 : decode cX4_refusePlace 33 = .ok (.ireturn, 1) := by decide +kernel
theorem dX0_isMissing_0 : decode cX0_isMissing 0 = .ok (.aload_n 0, 1) := by decide +kernel
theorem dX0_isMissing_1 : decode cX0_isMissing 1 = .ok (.getfield 9, 3) := by decide +kernel
theorem dX0_isMissing_4 : decode cX0_isMissing 4 = .ok (.ifCond .ge 7, 3) := by decide +kernel
theorem dX0_isMissing_7 : decode cX0_isMissing 7 = .ok (.iconst 1, 1) := by decide +kernel
theorem dX0_isMissing_8 : decode cX0_isMissing 8 = .ok (.goto 4, 3) := by decide +kernel
theorem dX0_isMissing_11 : decode cX0_isMissing 11 = .ok (.iconst 0, 1) := by decide +kernel
theorem dX0_isMissing_12 : decode cX0_isMissing 12 = .ok (.ireturn, 1) := by decide +kernel
theorem dX0_hasCell_0 : decode cX0_hasCell 0 = .ok (.iload_n 1, 1) := by decide +kernel
theorem dX0_hasCell_1 : decode cX0_hasCell 1 = .ok (.ifCond .lt 15, 3) := by decide +kernel
theorem dX0_hasCell_4 : decode cX0_hasCell 4 = .ok (.iload_n 1, 1) := by decide +kernel
theorem dX0_hasCell_5 : decode cX0_hasCell 5 = .ok (.aload_n 0, 1) := by decide +kernel
theorem dX0_hasCell_6 : decode cX0_hasCell 6 = .ok (.getfield 9, 3) := by decide +kernel
theorem dX0_hasCell_9 : decode cX0_hasCell 9 = .ok (.if_icmp .ge 7, 3) := by decide +kernel
theorem dX0_hasCell_12 : decode cX0_hasCell 12 = .ok (.iconst 1, 1) := by decide +kernel
theorem dX0_hasCell_13 : decode cX0_hasCell 13 = .ok (.goto 4, 3) := by decide +kernel
theorem dX0_hasCell_16 : decode cX0_hasCell 16 = .ok (.iconst 0, 1) := by decide +kernel
theorem dX0_hasCell_17 : decode cX0_hasCell 17 = .ok (.ireturn, 1) := by decide +kernel
theorem dX0_cellAt_0 : decode cX0_cellAt 0 = .ok (.iload_n 1, 1) := by decide +kernel
theorem dX0_cellAt_1 : decode cX0_cellAt 1 = .ok (.ifCond .lt 21, 3) := by decide +kernel
theorem dX0_cellAt_4 : decode cX0_cellAt 4 = .ok (.iload_n 1, 1) := by decide +kernel
theorem dX0_cellAt_5 : decode cX0_cellAt 5 = .ok (.aload_n 0, 1) := by decide +kernel
theorem dX0_cellAt_6 : decode cX0_cellAt 6 = .ok (.getfield 15, 3) := by decide +kernel
theorem dX0_cellAt_9 : decode cX0_cellAt 9 = .ok (.arraylength, 1) := by decide +kernel
theorem dX0_cellAt_10 : decode cX0_cellAt 10 = .ok (.if_icmp .ge 12, 3) := by decide +kernel
theorem dX0_cellAt_13 : decode cX0_cellAt 13 = .ok (.aload_n 0, 1) := by decide +kernel
theorem dX0_cellAt_14 : decode cX0_cellAt 14 = .ok (.getfield 15, 3) := by decide +kernel
theorem dX0_cellAt_17 : decode cX0_cellAt 17 = .ok (.iload_n 1, 1) := by decide +kernel
theorem dX0_cellAt_18 : decode cX0_cellAt 18 = .ok (.iaload, 1) := by decide +kernel
theorem dX0_cellAt_19 : decode cX0_cellAt 19 = .ok (.goto 4, 3) := by decide +kernel
theorem dX0_cellAt_22 : decode cX0_cellAt 22 = .ok (.iconst 0, 1) := by decide +kernel
theorem dX0_cellAt_23 : decode cX0_cellAt 23 = .ok (.ireturn, 1) := by decide +kernel
theorem dX0_setCell_0 : decode cX0_setCell 0 = .ok (.iload_n 1, 1) := by decide +kernel
theorem dX0_setCell_1 : decode cX0_setCell 1 = .ok (.ifCond .lt 19, 3) := by decide +kernel
theorem dX0_setCell_4 : decode cX0_setCell 4 = .ok (.iload_n 1, 1) := by decide +kernel
theorem dX0_setCell_5 : decode cX0_setCell 5 = .ok (.aload_n 0, 1) := by decide +kernel
theorem dX0_setCell_6 : decode cX0_setCell 6 = .ok (.getfield 15, 3) := by decide +kernel
theorem dX0_setCell_9 : decode cX0_setCell 9 = .ok (.arraylength, 1) := by decide +kernel
theorem dX0_setCell_10 : decode cX0_setCell 10 = .ok (.if_icmp .ge 10, 3) := by decide +kernel
theorem dX0_setCell_13 : decode cX0_setCell 13 = .ok (.aload_n 0, 1) := by decide +kernel
theorem dX0_setCell_14 : decode cX0_setCell 14 = .ok (.getfield 15, 3) := by decide +kernel
theorem dX0_setCell_17 : decode cX0_setCell 17 = .ok (.iload_n 1, 1) := by decide +kernel
theorem dX0_setCell_18 : decode cX0_setCell 18 = .ok (.iload_n 2, 1) := by decide +kernel
theorem dX0_setCell_19 : decode cX0_setCell 19 = .ok (.iastore, 1) := by decide +kernel
theorem dX0_setCell_20 : decode cX0_setCell 20 = .ok (.return_, 1) := by decide +kernel
theorem dX4_lay_0 : decode cX4_lay 0 = .ok (.aload_n 0, 1) := by decide +kernel
theorem dX4_lay_1 : decode cX4_lay 1 = .ok (.iload_n 1, 1) := by decide +kernel
theorem dX4_lay_2 : decode cX4_lay 2 = .ok (.invokevirtual 51, 3) := by decide +kernel
theorem dX4_lay_5 : decode cX4_lay 5 = .ok (.astore 4, 2) := by decide +kernel
theorem dX4_lay_7 : decode cX4_lay 7 = .ok (.aload_n 0, 1) := by decide +kernel
theorem dX4_lay_8 : decode cX4_lay 8 = .ok (.aload 4, 2) := by decide +kernel
theorem dX4_lay_10 : decode cX4_lay 10 = .ok (.iload_n 2, 1) := by decide +kernel
theorem dX4_lay_11 : decode cX4_lay 11 = .ok (.invokevirtual 59, 3) := by decide +kernel
theorem dX4_lay_14 : decode cX4_lay 14 = .ok (.istore 5, 2) := by decide +kernel
theorem dX4_lay_16 : decode cX4_lay 16 = .ok (.aload 4, 2) := by decide +kernel
theorem dX4_lay_18 : decode cX4_lay 18 = .ok (.ifnull 8, 3) := by decide +kernel
theorem dX4_lay_21 : decode cX4_lay 21 = .ok (.iload 5, 2) := by decide +kernel
theorem dX4_lay_23 : decode cX4_lay 23 = .ok (.ifCond .eq 6, 3) := by decide +kernel
theorem dX4_lay_26 : decode cX4_lay 26 = .ok (.iload 5, 2) := by decide +kernel
theorem dX4_lay_28 : decode cX4_lay 28 = .ok (.ireturn, 1) := by decide +kernel
theorem dX4_lay_29 : decode cX4_lay 29 = .ok (.aload_n 0, 1) := by decide +kernel
theorem dX4_lay_30 : decode cX4_lay 30 = .ok (.aload 4, 2) := by decide +kernel
theorem dX4_lay_32 : decode cX4_lay 32 = .ok (.iload_n 2, 1) := by decide +kernel
theorem dX4_lay_33 : decode cX4_lay 33 = .ok (.invokevirtual 63, 3) := by decide +kernel
theorem dX4_lay_36 : decode cX4_lay 36 = .ok (.putfield 39, 3) := by decide +kernel
theorem dX4_lay_39 : decode cX4_lay 39 = .ok (.aload 4, 2) := by decide +kernel
theorem dX4_lay_41 : decode cX4_lay 41 = .ok (.iload_n 2, 1) := by decide +kernel
theorem dX4_lay_42 : decode cX4_lay 42 = .ok (.iload_n 3, 1) := by decide +kernel
theorem dX4_lay_43 : decode cX4_lay 43 = .ok (.invokevirtual 67, 3) := by decide +kernel
theorem dX4_lay_46 : decode cX4_lay 46 = .ok (.iconst 1, 1) := by decide +kernel
theorem dX4_lay_47 : decode cX4_lay 47 = .ok (.ireturn, 1) := by decide +kernel
theorem dX4_at_0 : decode cX4_at 0 = .ok (.aload_n 0, 1) := by decide +kernel
theorem dX4_at_1 : decode cX4_at 1 = .ok (.iload_n 1, 1) := by decide +kernel
theorem dX4_at_2 : decode cX4_at 2 = .ok (.invokevirtual 51, 3) := by decide +kernel
theorem dX4_at_5 : decode cX4_at 5 = .ok (.astore_n 3, 1) := by decide +kernel
theorem dX4_at_6 : decode cX4_at 6 = .ok (.aload_n 0, 1) := by decide +kernel
theorem dX4_at_7 : decode cX4_at 7 = .ok (.aload_n 3, 1) := by decide +kernel
theorem dX4_at_8 : decode cX4_at 8 = .ok (.iload_n 2, 1) := by decide +kernel
theorem dX4_at_9 : decode cX4_at 9 = .ok (.invokevirtual 59, 3) := by decide +kernel
theorem dX4_at_12 : decode cX4_at 12 = .ok (.istore 4, 2) := by decide +kernel
theorem dX4_at_14 : decode cX4_at 14 = .ok (.aload_n 3, 1) := by decide +kernel
theorem dX4_at_15 : decode cX4_at 15 = .ok (.ifnull 8, 3) := by decide +kernel
theorem dX4_at_18 : decode cX4_at 18 = .ok (.iload 4, 2) := by decide +kernel
theorem dX4_at_20 : decode cX4_at 20 = .ok (.ifCond .eq 6, 3) := by decide +kernel
theorem dX4_at_23 : decode cX4_at 23 = .ok (.iload 4, 2) := by decide +kernel
theorem dX4_at_25 : decode cX4_at 25 = .ok (.ireturn, 1) := by decide +kernel
theorem dX4_at_26 : decode cX4_at 26 = .ok (.aload_n 0, 1) := by decide +kernel
theorem dX4_at_27 : decode cX4_at 27 = .ok (.aload_n 3, 1) := by decide +kernel
theorem dX4_at_28 : decode cX4_at 28 = .ok (.iload_n 2, 1) := by decide +kernel
theorem dX4_at_29 : decode cX4_at 29 = .ok (.invokevirtual 63, 3) := by decide +kernel
theorem dX4_at_32 : decode cX4_at 32 = .ok (.putfield 39, 3) := by decide +kernel
theorem dX4_at_35 : decode cX4_at 35 = .ok (.iconst 1, 1) := by decide +kernel
theorem dX4_at_36 : decode cX4_at 36 = .ok (.ireturn, 1) := by decide +kernel
theorem dX4_tear_0 : decode cX4_tear 0 = .ok (.aload_n 0, 1) := by decide +kernel
theorem dX4_tear_1 : decode cX4_tear 1 = .ok (.iload_n 1, 1) := by decide +kernel
theorem dX4_tear_2 : decode cX4_tear 2 = .ok (.invokevirtual 51, 3) := by decide +kernel
theorem dX4_tear_5 : decode cX4_tear 5 = .ok (.astore_n 2, 1) := by decide +kernel
theorem dX4_tear_6 : decode cX4_tear 6 = .ok (.aload_n 0, 1) := by decide +kernel
theorem dX4_tear_7 : decode cX4_tear 7 = .ok (.aload_n 2, 1) := by decide +kernel
theorem dX4_tear_8 : decode cX4_tear 8 = .ok (.invokevirtual 71, 3) := by decide +kernel
theorem dX4_tear_11 : decode cX4_tear 11 = .ok (.istore_n 3, 1) := by decide +kernel
theorem dX4_tear_12 : decode cX4_tear 12 = .ok (.aload_n 2, 1) := by decide +kernel
theorem dX4_tear_13 : decode cX4_tear 13 = .ok (.ifnull 7, 3) := by decide +kernel
theorem dX4_tear_16 : decode cX4_tear 16 = .ok (.iload_n 3, 1) := by decide +kernel
theorem dX4_tear_17 : decode cX4_tear 17 = .ok (.ifCond .eq 5, 3) := by decide +kernel
theorem dX4_tear_20 : decode cX4_tear 20 = .ok (.iload_n 3, 1) := by decide +kernel
theorem dX4_tear_21 : decode cX4_tear 21 = .ok (.ireturn, 1) := by decide +kernel
theorem dX4_tear_22 : decode cX4_tear 22 = .ok (.aload_n 2, 1) := by decide +kernel
theorem dX4_tear_23 : decode cX4_tear 23 = .ok (.iconst (-1), 1) := by decide +kernel
theorem dX4_tear_24 : decode cX4_tear 24 = .ok (.putfield 75, 3) := by decide +kernel
theorem dX4_tear_27 : decode cX4_tear 27 = .ok (.iconst 1, 1) := by decide +kernel
theorem dX4_tear_28 : decode cX4_tear 28 = .ok (.ireturn, 1) := by decide +kernel
theorem dX0_hasRun_0 : decode cX0_hasRun 0 = .ok (.iload_n 2, 1) := by decide +kernel
theorem dX0_hasRun_1 : decode cX0_hasRun 1 = .ok (.ifCond .lt 21, 3) := by decide +kernel
theorem dX0_hasRun_4 : decode cX0_hasRun 4 = .ok (.iload_n 1, 1) := by decide +kernel
theorem dX0_hasRun_5 : decode cX0_hasRun 5 = .ok (.ifCond .lt 17, 3) := by decide +kernel
theorem dX0_hasRun_8 : decode cX0_hasRun 8 = .ok (.iload_n 1, 1) := by decide +kernel
theorem dX0_hasRun_9 : decode cX0_hasRun 9 = .ok (.aload_n 0, 1) := by decide +kernel
theorem dX0_hasRun_10 : decode cX0_hasRun 10 = .ok (.getfield 9, 3) := by decide +kernel
theorem dX0_hasRun_13 : decode cX0_hasRun 13 = .ok (.iload_n 2, 1) := by decide +kernel
theorem dX0_hasRun_14 : decode cX0_hasRun 14 = .ok (.isub, 1) := by decide +kernel
theorem dX0_hasRun_15 : decode cX0_hasRun 15 = .ok (.if_icmp .gt 7, 3) := by decide +kernel
theorem dX0_hasRun_18 : decode cX0_hasRun 18 = .ok (.iconst 1, 1) := by decide +kernel
theorem dX0_hasRun_19 : decode cX0_hasRun 19 = .ok (.goto 4, 3) := by decide +kernel
theorem dX0_hasRun_22 : decode cX0_hasRun 22 = .ok (.iconst 0, 1) := by decide +kernel
theorem dX0_hasRun_23 : decode cX0_hasRun 23 = .ok (.ireturn, 1) := by decide +kernel
theorem dX4_copy_0 : decode cX4_copy 0 = .ok (.aload_n 0, 1) := by decide +kernel
theorem dX4_copy_1 : decode cX4_copy 1 = .ok (.iload_n 1, 1) := by decide +kernel
theorem dX4_copy_2 : decode cX4_copy 2 = .ok (.invokevirtual 51, 3) := by decide +kernel
theorem dX4_copy_5 : decode cX4_copy 5 = .ok (.astore 6, 2) := by decide +kernel
theorem dX4_copy_7 : decode cX4_copy 7 = .ok (.aload_n 0, 1) := by decide +kernel
theorem dX4_copy_8 : decode cX4_copy 8 = .ok (.iload_n 3, 1) := by decide +kernel
theorem dX4_copy_9 : decode cX4_copy 9 = .ok (.invokevirtual 51, 3) := by decide +kernel
theorem dX4_copy_12 : decode cX4_copy 12 = .ok (.astore 7, 2) := by decide +kernel
theorem dX4_copy_14 : decode cX4_copy 14 = .ok (.aload 6, 2) := by decide +kernel
theorem dX4_copy_16 : decode cX4_copy 16 = .ok (.ifnull 8, 3) := by decide +kernel
theorem dX4_copy_19 : decode cX4_copy 19 = .ok (.aload 7, 2) := by decide +kernel
theorem dX4_copy_21 : decode cX4_copy 21 = .ok (.ifnonnull 5, 3) := by decide +kernel
theorem dX4_copy_24 : decode cX4_copy 24 = .ok (.iconst (-1), 1) := by decide +kernel
theorem dX4_copy_25 : decode cX4_copy 25 = .ok (.ireturn, 1) := by decide +kernel
theorem dX4_copy_26 : decode cX4_copy 26 = .ok (.iload 5, 2) := by decide +kernel
theorem dX4_copy_28 : decode cX4_copy 28 = .ok (.ifCond .ge 9, 3) := by decide +kernel
theorem dX4_copy_31 : decode cX4_copy 31 = .ok (.aload_n 0, 1) := by decide +kernel
theorem dX4_copy_32 : decode cX4_copy 32 = .ok (.iconst 5, 1) := by decide +kernel
theorem dX4_copy_33 : decode cX4_copy 33 = .ok (.invokevirtual 78, 3) := by decide +kernel
theorem dX4_copy_36 : decode cX4_copy 36 = .ok (.ireturn, 1) := by decide +kernel
theorem dX4_copy_37 : decode cX4_copy 37 = .ok (.aload 6, 2) := by decide +kernel
theorem dX4_copy_39 : decode cX4_copy 39 = .ok (.invokevirtual 81, 3) := by decide +kernel
theorem dX4_copy_42 : decode cX4_copy 42 = .ok (.ifCond .ne 11, 3) := by decide +kernel
theorem dX4_copy_45 : decode cX4_copy 45 = .ok (.aload 7, 2) := by decide +kernel
theorem dX4_copy_47 : decode cX4_copy 47 = .ok (.invokevirtual 81, 3) := by decide +kernel
theorem dX4_copy_50 : decode cX4_copy 50 = .ok (.ifCond .eq 9, 3) := by decide +kernel
theorem dX4_copy_53 : decode cX4_copy 53 = .ok (.aload_n 0, 1) := by decide +kernel
theorem dX4_copy_54 : decode cX4_copy 54 = .ok (.iconst 1, 1) := by decide +kernel
theorem dX4_copy_55 : decode cX4_copy 55 = .ok (.invokevirtual 78, 3) := by decide +kernel
theorem dX4_copy_58 : decode cX4_copy 58 = .ok (.ireturn, 1) := by decide +kernel
theorem dX4_copy_59 : decode cX4_copy 59 = .ok (.aload 6, 2) := by decide +kernel
theorem dX4_copy_61 : decode cX4_copy 61 = .ok (.iload_n 2, 1) := by decide +kernel
theorem dX4_copy_62 : decode cX4_copy 62 = .ok (.iload 5, 2) := by decide +kernel
theorem dX4_copy_64 : decode cX4_copy 64 = .ok (.invokevirtual 85, 3) := by decide +kernel
theorem dX4_copy_67 : decode cX4_copy 67 = .ok (.ifCond .eq 15, 3) := by decide +kernel
theorem dX4_copy_70 : decode cX4_copy 70 = .ok (.aload 7, 2) := by decide +kernel
theorem dX4_copy_72 : decode cX4_copy 72 = .ok (.iload 4, 2) := by decide +kernel
theorem dX4_copy_74 : decode cX4_copy 74 = .ok (.iload 5, 2) := by decide +kernel
theorem dX4_copy_76 : decode cX4_copy 76 = .ok (.invokevirtual 85, 3) := by decide +kernel
theorem dX4_copy_79 : decode cX4_copy 79 = .ok (.ifCond .ne 9, 3) := by decide +kernel
theorem dX4_copy_82 : decode cX4_copy 82 = .ok (.aload_n 0, 1) := by decide +kernel
theorem dX4_copy_83 : decode cX4_copy 83 = .ok (.iconst 2, 1) := by decide +kernel
theorem dX4_copy_84 : decode cX4_copy 84 = .ok (.invokevirtual 78, 3) := by decide +kernel
theorem dX4_copy_87 : decode cX4_copy 87 = .ok (.ireturn, 1) := by decide +kernel
theorem dX4_copy_88 : decode cX4_copy 88 = .ok (.aload 6, 2) := by decide +kernel
theorem dX4_copy_90 : decode cX4_copy 90 = .ok (.getfield 89, 3) := by decide +kernel
theorem dX4_copy_93 : decode cX4_copy 93 = .ok (.iload_n 2, 1) := by decide +kernel
theorem dX4_copy_94 : decode cX4_copy 94 = .ok (.aload 7, 2) := by decide +kernel
theorem dX4_copy_96 : decode cX4_copy 96 = .ok (.getfield 89, 3) := by decide +kernel
theorem dX4_copy_99 : decode cX4_copy 99 = .ok (.iload 4, 2) := by decide +kernel
theorem dX4_copy_101 : decode cX4_copy 101 = .ok (.iload 5, 2) := by decide +kernel
theorem dX4_copy_103 : decode cX4_copy 103 = .ok (.invokestatic 92, 3) := by decide +kernel
theorem dX4_copy_106 : decode cX4_copy 106 = .ok (.iconst 1, 1) := by decide +kernel
theorem dX4_copy_107 : decode cX4_copy 107 = .ok (.ireturn, 1) := by decide +kernel
theorem dX4_mean_0 : decode cX4_mean 0 = .ok (.aload_n 0, 1) := by decide +kernel
theorem dX4_mean_1 : decode cX4_mean 1 = .ok (.iload_n 1, 1) := by decide +kernel
theorem dX4_mean_2 : decode cX4_mean 2 = .ok (.invokevirtual 51, 3) := by decide +kernel
theorem dX4_mean_5 : decode cX4_mean 5 = .ok (.astore_n 2, 1) := by decide +kernel
theorem dX4_mean_6 : decode cX4_mean 6 = .ok (.aload_n 0, 1) := by decide +kernel
theorem dX4_mean_7 : decode cX4_mean 7 = .ok (.aload_n 2, 1) := by decide +kernel
theorem dX4_mean_8 : decode cX4_mean 8 = .ok (.invokevirtual 71, 3) := by decide +kernel
theorem dX4_mean_11 : decode cX4_mean 11 = .ok (.istore_n 3, 1) := by decide +kernel
theorem dX4_mean_12 : decode cX4_mean 12 = .ok (.aload_n 2, 1) := by decide +kernel
theorem dX4_mean_13 : decode cX4_mean 13 = .ok (.ifnull 7, 3) := by decide +kernel
theorem dX4_mean_16 : decode cX4_mean 16 = .ok (.iload_n 3, 1) := by decide +kernel
theorem dX4_mean_17 : decode cX4_mean 17 = .ok (.ifCond .eq 5, 3) := by decide +kernel
theorem dX4_mean_20 : decode cX4_mean 20 = .ok (.iload_n 3, 1) := by decide +kernel
theorem dX4_mean_21 : decode cX4_mean 21 = .ok (.ireturn, 1) := by decide +kernel
theorem dX4_mean_22 : decode cX4_mean 22 = .ok (.aload_n 2, 1) := by decide +kernel
theorem dX4_mean_23 : decode cX4_mean 23 = .ok (.getfield 75, 3) := by decide +kernel
theorem dX4_mean_26 : decode cX4_mean 26 = .ok (.ifCond .ne 9, 3) := by decide +kernel
theorem dX4_mean_29 : decode cX4_mean 29 = .ok (.aload_n 0, 1) := by decide +kernel
theorem dX4_mean_30 : decode cX4_mean 30 = .ok (.iconst 4, 1) := by decide +kernel
theorem dX4_mean_31 : decode cX4_mean 31 = .ok (.invokevirtual 78, 3) := by decide +kernel
theorem dX4_mean_34 : decode cX4_mean 34 = .ok (.ireturn, 1) := by decide +kernel
theorem dX4_mean_35 : decode cX4_mean 35 = .ok (.lconst 0, 1) := by decide +kernel
theorem dX4_mean_36 : decode cX4_mean 36 = .ok (.lstore 4, 2) := by decide +kernel
theorem dX4_mean_38 : decode cX4_mean 38 = .ok (.iconst 0, 1) := by decide +kernel
theorem dX4_mean_39 : decode cX4_mean 39 = .ok (.istore 6, 2) := by decide +kernel
theorem dX4_mean_41 : decode cX4_mean 41 = .ok (.iload 6, 2) := by decide +kernel
theorem dX4_mean_43 : decode cX4_mean 43 = .ok (.aload_n 2, 1) := by decide +kernel
theorem dX4_mean_44 : decode cX4_mean 44 = .ok (.getfield 75, 3) := by decide +kernel
theorem dX4_mean_47 : decode cX4_mean 47 = .ok (.if_icmp .ge 21, 3) := by decide +kernel
theorem dX4_mean_50 : decode cX4_mean 50 = .ok (.lload 4, 2) := by decide +kernel
theorem dX4_mean_52 : decode cX4_mean 52 = .ok (.aload_n 2, 1) := by decide +kernel
theorem dX4_mean_53 : decode cX4_mean 53 = .ok (.iload 6, 2) := by decide +kernel
theorem dX4_mean_55 : decode cX4_mean 55 = .ok (.invokevirtual 63, 3) := by decide +kernel
theorem dX4_mean_58 : decode cX4_mean 58 = .ok (.i2l, 1) := by decide +kernel
theorem dX4_mean_59 : decode cX4_mean 59 = .ok (.ladd, 1) := by decide +kernel
theorem dX4_mean_60 : decode cX4_mean 60 = .ok (.lstore 4, 2) := by decide +kernel
theorem dX4_mean_62 : decode cX4_mean 62 = .ok (.iinc 6 1, 3) := by decide +kernel
theorem dX4_mean_65 : decode cX4_mean 65 = .ok (.goto (-24), 3) := by decide +kernel
theorem dX4_mean_68 : decode cX4_mean 68 = .ok (.aload_n 0, 1) := by decide +kernel
theorem dX4_mean_69 : decode cX4_mean 69 = .ok (.lload 4, 2) := by decide +kernel
theorem dX4_mean_71 : decode cX4_mean 71 = .ok (.aload_n 2, 1) := by decide +kernel
theorem dX4_mean_72 : decode cX4_mean 72 = .ok (.getfield 75, 3) := by decide +kernel
theorem dX4_mean_75 : decode cX4_mean 75 = .ok (.i2l, 1) := by decide +kernel
theorem dX4_mean_76 : decode cX4_mean 76 = .ok (.ldiv, 1) := by decide +kernel
theorem dX4_mean_77 : decode cX4_mean 77 = .ok (.l2i, 1) := by decide +kernel
theorem dX4_mean_78 : decode cX4_mean 78 = .ok (.putfield 39, 3) := by decide +kernel
theorem dX4_mean_81 : decode cX4_mean 81 = .ok (.iconst 1, 1) := by decide +kernel
theorem dX4_mean_82 : decode cX4_mean 82 = .ok (.ireturn, 1) := by decide +kernel
theorem dX4_textAt_0 : decode cX4_textAt 0 = .ok (.iload_n 1, 1) := by decide +kernel
theorem dX4_textAt_1 : decode cX4_textAt 1 = .ok (.ifCond .lt 17, 3) := by decide +kernel
theorem dX4_textAt_4 : decode cX4_textAt 4 = .ok (.iload_n 1, 1) := by decide +kernel
theorem dX4_textAt_5 : decode cX4_textAt 5 = .ok (.iconst 4, 1) := by decide +kernel
theorem dX4_textAt_6 : decode cX4_textAt 6 = .ok (.if_icmp .ge 12, 3) := by decide +kernel
theorem dX4_textAt_9 : decode cX4_textAt 9 = .ok (.aload_n 0, 1) := by decide +kernel
theorem dX4_textAt_10 : decode cX4_textAt 10 = .ok (.getfield 15, 3) := by decide +kernel
theorem dX4_textAt_13 : decode cX4_textAt 13 = .ok (.iload_n 1, 1) := by decide +kernel
theorem dX4_textAt_14 : decode cX4_textAt 14 = .ok (.aaload, 1) := by decide +kernel
theorem dX4_textAt_15 : decode cX4_textAt 15 = .ok (.goto 4, 3) := by decide +kernel
theorem dX4_textAt_18 : decode cX4_textAt 18 = .ok (.aconst_null, 1) := by decide +kernel
theorem dX4_textAt_19 : decode cX4_textAt 19 = .ok (.areturn, 1) := by decide +kernel
theorem dX4_text_0 : decode cX4_text 0 = .ok (.aload_n 0, 1) := by decide +kernel
theorem dX4_text_1 : decode cX4_text 1 = .ok (.aload_n 0, 1) := by decide +kernel
theorem dX4_text_2 : decode cX4_text 2 = .ok (.iload_n 1, 1) := by decide +kernel
theorem dX4_text_3 : decode cX4_text 3 = .ok (.invokevirtual 98, 3) := by decide +kernel
theorem dX4_text_6 : decode cX4_text 6 = .ok (.iload_n 2, 1) := by decide +kernel
theorem dX4_text_7 : decode cX4_text 7 = .ok (.bipush 60, 2) := by decide +kernel
theorem dX4_text_9 : decode cX4_text 9 = .ok (.bipush 32, 2) := by decide +kernel
theorem dX4_text_11 : decode cX4_text 11 = .ok (.invokevirtual 55, 3) := by decide +kernel
theorem dX4_text_14 : decode cX4_text 14 = .ok (.ireturn, 1) := by decide +kernel
theorem dX4_put_0 : decode cX4_put 0 = .ok (.aload_n 0, 1) := by decide +kernel
theorem dX4_put_1 : decode cX4_put 1 = .ok (.iload_n 1, 1) := by decide +kernel
theorem dX4_put_2 : decode cX4_put 2 = .ok (.invokevirtual 98, 3) := by decide +kernel
theorem dX4_put_5 : decode cX4_put 5 = .ok (.astore 4, 2) := by decide +kernel
theorem dX4_put_7 : decode cX4_put 7 = .ok (.aload_n 0, 1) := by decide +kernel
theorem dX4_put_8 : decode cX4_put 8 = .ok (.aload 4, 2) := by decide +kernel
theorem dX4_put_10 : decode cX4_put 10 = .ok (.iload_n 2, 1) := by decide +kernel
theorem dX4_put_11 : decode cX4_put 11 = .ok (.invokevirtual 59, 3) := by decide +kernel
theorem dX4_put_14 : decode cX4_put 14 = .ok (.istore 5, 2) := by decide +kernel
theorem dX4_put_16 : decode cX4_put 16 = .ok (.aload 4, 2) := by decide +kernel
theorem dX4_put_18 : decode cX4_put 18 = .ok (.ifnull 8, 3) := by decide +kernel
theorem dX4_put_21 : decode cX4_put 21 = .ok (.iload 5, 2) := by decide +kernel
theorem dX4_put_23 : decode cX4_put 23 = .ok (.ifCond .eq 6, 3) := by decide +kernel
theorem dX4_put_26 : decode cX4_put 26 = .ok (.iload 5, 2) := by decide +kernel
theorem dX4_put_28 : decode cX4_put 28 = .ok (.ireturn, 1) := by decide +kernel
theorem dX4_put_29 : decode cX4_put 29 = .ok (.aload 4, 2) := by decide +kernel
theorem dX4_put_31 : decode cX4_put 31 = .ok (.iload_n 2, 1) := by decide +kernel
theorem dX4_put_32 : decode cX4_put 32 = .ok (.invokevirtual 63, 3) := by decide +kernel
theorem dX4_put_35 : decode cX4_put 35 = .ok (.istore 6, 2) := by decide +kernel
theorem dX4_put_37 : decode cX4_put 37 = .ok (.aload 4, 2) := by decide +kernel
theorem dX4_put_39 : decode cX4_put 39 = .ok (.iload_n 2, 1) := by decide +kernel
theorem dX4_put_40 : decode cX4_put 40 = .ok (.iload_n 3, 1) := by decide +kernel
theorem dX4_put_41 : decode cX4_put 41 = .ok (.i2b, 1) := by decide +kernel
theorem dX4_put_42 : decode cX4_put 42 = .ok (.invokevirtual 67, 3) := by decide +kernel
theorem dX4_put_45 : decode cX4_put 45 = .ok (.iload 6, 2) := by decide +kernel
theorem dX4_put_47 : decode cX4_put 47 = .ok (.sipush 1000, 3) := by decide +kernel
theorem dX4_put_50 : decode cX4_put 50 = .ok (.iadd, 1) := by decide +kernel
theorem dX4_put_51 : decode cX4_put 51 = .ok (.ireturn, 1) := by decide +kernel
theorem dX4_kindOfLetter_0 : decode cX4_kindOfLetter 0 = .ok (.iconst 0, 1) := by decide +kernel
theorem dX4_kindOfLetter_1 : decode cX4_kindOfLetter 1 = .ok (.istore_n 1, 1) := by decide +kernel
theorem dX4_kindOfLetter_2 : decode cX4_kindOfLetter 2 = .ok (.iload_n 1, 1) := by decide +kernel
theorem dX4_kindOfLetter_3 : decode cX4_kindOfLetter 3 = .ok (.bipush 6, 2) := by decide +kernel
theorem dX4_kindOfLetter_5 : decode cX4_kindOfLetter 5 = .ok (.if_icmp .ge 20, 3) := by decide +kernel
theorem dX4_kindOfLetter_8 : decode cX4_kindOfLetter 8 = .ok (.getstatic 308, 3) := by decide +kernel
theorem dX4_kindOfLetter_11 : decode cX4_kindOfLetter 11 = .ok (.iload_n 1, 1) := by decide +kernel
theorem dX4_kindOfLetter_12 : decode cX4_kindOfLetter 12 = .ok (.iaload, 1) := by decide +kernel
theorem dX4_kindOfLetter_13 : decode cX4_kindOfLetter 13 = .ok (.iload_n 0, 1) := by decide +kernel
theorem dX4_kindOfLetter_14 : decode cX4_kindOfLetter 14 = .ok (.if_icmp .ne 5, 3) := by decide +kernel
theorem dX4_kindOfLetter_17 : decode cX4_kindOfLetter 17 = .ok (.iload_n 1, 1) := by decide +kernel
theorem dX4_kindOfLetter_18 : decode cX4_kindOfLetter 18 = .ok (.ireturn, 1) := by decide +kernel
theorem dX4_kindOfLetter_19 : decode cX4_kindOfLetter 19 = .ok (.iinc 1 1, 3) := by decide +kernel
theorem dX4_kindOfLetter_22 : decode cX4_kindOfLetter 22 = .ok (.goto (-20), 3) := by decide +kernel
theorem dX4_kindOfLetter_25 : decode cX4_kindOfLetter 25 = .ok (.bipush (-9), 2) := by decide +kernel
theorem dX4_kindOfLetter_27 : decode cX4_kindOfLetter 27 = .ok (.ireturn, 1) := by decide +kernel
theorem dX4_isSign_0 : decode cX4_isSign 0 = .ok (.iload_n 0, 1) := by decide +kernel
theorem dX4_isSign_1 : decode cX4_isSign 1 = .ok (.ifCond .ne 18, 3) := by decide +kernel
theorem dX4_isSign_4 : decode cX4_isSign 4 = .ok (.iload_n 1, 1) := by decide +kernel
theorem dX4_isSign_5 : decode cX4_isSign 5 = .ok (.invokestatic 314, 3) := by decide +kernel
theorem dX4_isSign_8 : decode cX4_isSign 8 = .ok (.bipush (-9), 2) := by decide +kernel
theorem dX4_isSign_10 : decode cX4_isSign 10 = .ok (.if_icmp .eq 7, 3) := by decide +kernel
theorem dX4_isSign_13 : decode cX4_isSign 13 = .ok (.iconst 1, 1) := by decide +kernel
theorem dX4_isSign_14 : decode cX4_isSign 14 = .ok (.goto 4, 3) := by decide +kernel
theorem dX4_isSign_17 : decode cX4_isSign 17 = .ok (.iconst 0, 1) := by decide +kernel
theorem dX4_isSign_18 : decode cX4_isSign 18 = .ok (.ireturn, 1) := by decide +kernel
theorem dX4_isSign_19 : decode cX4_isSign 19 = .ok (.iload_n 1, 1) := by decide +kernel
theorem dX4_isSign_20 : decode cX4_isSign 20 = .ok (.bipush 48, 2) := by decide +kernel
theorem dX4_isSign_22 : decode cX4_isSign 22 = .ok (.isub, 1) := by decide +kernel
theorem dX4_isSign_23 : decode cX4_isSign 23 = .ok (.istore_n 2, 1) := by decide +kernel
theorem dX4_isSign_24 : decode cX4_isSign 24 = .ok (.iload_n 0, 1) := by decide +kernel
theorem dX4_isSign_25 : decode cX4_isSign 25 = .ok (.iconst 3, 1) := by decide +kernel
theorem dX4_isSign_26 : decode cX4_isSign 26 = .ok (.if_icmp .ne 21, 3) := by decide +kernel
theorem dX4_isSign_29 : decode cX4_isSign 29 = .ok (.iload_n 2, 1) := by decide +kernel
theorem dX4_isSign_30 : decode cX4_isSign 30 = .ok (.iconst 1, 1) := by decide +kernel
theorem dX4_isSign_31 : decode cX4_isSign 31 = .ok (.if_icmp .lt 12, 3) := by decide +kernel
theorem dX4_isSign_34 : decode cX4_isSign 34 = .ok (.iload_n 2, 1) := by decide +kernel
theorem dX4_isSign_35 : decode cX4_isSign 35 = .ok (.iconst 4, 1) := by decide +kernel
theorem dX4_isSign_36 : decode cX4_isSign 36 = .ok (.if_icmp .gt 7, 3) := by decide +kernel
theorem dX4_isSign_39 : decode cX4_isSign 39 = .ok (.iconst 1, 1) := by decide +kernel
theorem dX4_isSign_40 : decode cX4_isSign 40 = .ok (.goto 22, 3) := by decide +kernel
theorem dX4_isSign_43 : decode cX4_isSign 43 = .ok (.iconst 0, 1) := by decide +kernel
theorem dX4_isSign_44 : decode cX4_isSign 44 = .ok (.goto 18, 3) := by decide +kernel
theorem dX4_isSign_47 : decode cX4_isSign 47 = .ok (.iload_n 2, 1) := by decide +kernel
theorem dX4_isSign_48 : decode cX4_isSign 48 = .ok (.ifCond .lt 13, 3) := by decide +kernel
theorem dX4_isSign_51 : decode cX4_isSign 51 = .ok (.iload_n 2, 1) := by decide +kernel
theorem dX4_isSign_52 : decode cX4_isSign 52 = .ok (.bipush 9, 2) := by decide +kernel
theorem dX4_isSign_54 : decode cX4_isSign 54 = .ok (.if_icmp .gt 7, 3) := by decide +kernel
theorem dX4_isSign_57 : decode cX4_isSign 57 = .ok (.iconst 1, 1) := by decide +kernel
theorem dX4_isSign_58 : decode cX4_isSign 58 = .ok (.goto 4, 3) := by decide +kernel
theorem dX4_isSign_61 : decode cX4_isSign 61 = .ok (.iconst 0, 1) := by decide +kernel
theorem dX4_isSign_62 : decode cX4_isSign 62 = .ok (.ireturn, 1) := by decide +kernel
theorem dX4_firstFault_0 : decode cX4_firstFault 0 = .ok (.iconst 0, 1) := by decide +kernel
theorem dX4_firstFault_1 : decode cX4_firstFault 1 = .ok (.istore_n 1, 1) := by decide +kernel
theorem dX4_firstFault_2 : decode cX4_firstFault 2 = .ok (.iconst 0, 1) := by decide +kernel
theorem dX4_firstFault_3 : decode cX4_firstFault 3 = .ok (.istore_n 2, 1) := by decide +kernel
theorem dX4_firstFault_4 : decode cX4_firstFault 4 = .ok (.iconst 0, 1) := by decide +kernel
theorem dX4_firstFault_5 : decode cX4_firstFault 5 = .ok (.istore_n 3, 1) := by decide +kernel
theorem dX4_firstFault_6 : decode cX4_firstFault 6 = .ok (.iload_n 3, 1) := by decide +kernel
theorem dX4_firstFault_7 : decode cX4_firstFault 7 = .ok (.aload_n 0, 1) := by decide +kernel
theorem dX4_firstFault_8 : decode cX4_firstFault 8 = .ok (.getfield 75, 3) := by decide +kernel
theorem dX4_firstFault_11 : decode cX4_firstFault 11 = .ok (.if_icmp .ge 57, 3) := by decide +kernel
theorem dX4_firstFault_14 : decode cX4_firstFault 14 = .ok (.aload_n 0, 1) := by decide +kernel
theorem dX4_firstFault_15 : decode cX4_firstFault 15 = .ok (.iload_n 3, 1) := by decide +kernel
theorem dX4_firstFault_16 : decode cX4_firstFault 16 = .ok (.invokevirtual 63, 3) := by decide +kernel
theorem dX4_firstFault_19 : decode cX4_firstFault 19 = .ok (.istore 4, 2) := by decide +kernel
theorem dX4_firstFault_21 : decode cX4_firstFault 21 = .ok (.iload_n 2, 1) := by decide +kernel
theorem dX4_firstFault_22 : decode cX4_firstFault 22 = .ok (.ifCond .gt 10, 3) := by decide +kernel
theorem dX4_firstFault_25 : decode cX4_firstFault 25 = .ok (.iload 4, 2) := by decide +kernel
theorem dX4_firstFault_27 : decode cX4_firstFault 27 = .ok (.bipush 32, 2) := by decide +kernel
theorem dX4_firstFault_29 : decode cX4_firstFault 29 = .ok (.if_icmp .eq 33, 3) := by decide +kernel
theorem dX4_firstFault_32 : decode cX4_firstFault 32 = .ok (.iload_n 1, 1) := by decide +kernel
theorem dX4_firstFault_33 : decode cX4_firstFault 33 = .ok (.bipush 8, 2) := by decide +kernel
theorem dX4_firstFault_35 : decode cX4_firstFault 35 = .ok (.if_icmp .ge 12, 3) := by decide +kernel
theorem dX4_firstFault_38 : decode cX4_firstFault 38 = .ok (.iload_n 2, 1) := by decide +kernel
theorem dX4_firstFault_39 : decode cX4_firstFault 39 = .ok (.iload 4, 2) := by decide +kernel
theorem dX4_firstFault_41 : decode cX4_firstFault 41 = .ok (.invokestatic 311, 3) := by decide +kernel
theorem dX4_firstFault_44 : decode cX4_firstFault 44 = .ok (.ifCond .ne 5, 3) := by decide +kernel
theorem dX4_firstFault_47 : decode cX4_firstFault 47 = .ok (.iload_n 3, 1) := by decide +kernel
theorem dX4_firstFault_48 : decode cX4_firstFault 48 = .ok (.ireturn, 1) := by decide +kernel
theorem dX4_firstFault_49 : decode cX4_firstFault 49 = .ok (.iinc 2 1, 3) := by decide +kernel
theorem dX4_firstFault_52 : decode cX4_firstFault 52 = .ok (.iload_n 2, 1) := by decide +kernel
theorem dX4_firstFault_53 : decode cX4_firstFault 53 = .ok (.iconst 5, 1) := by decide +kernel
theorem dX4_firstFault_54 : decode cX4_firstFault 54 = .ok (.if_icmp .ne 8, 3) := by decide +kernel
theorem dX4_firstFault_57 : decode cX4_firstFault 57 = .ok (.iconst 0, 1) := by decide +kernel
theorem dX4_firstFault_58 : decode cX4_firstFault 58 = .ok (.istore_n 2, 1) := by decide +kernel
theorem dX4_firstFault_59 : decode cX4_firstFault 59 = .ok (.iinc 1 1, 3) := by decide +kernel
theorem dX4_firstFault_62 : decode cX4_firstFault 62 = .ok (.iinc 3 1, 3) := by decide +kernel
theorem dX4_firstFault_65 : decode cX4_firstFault 65 = .ok (.goto (-59), 3) := by decide +kernel
theorem dX4_firstFault_68 : decode cX4_firstFault 68 = .ok (.iload_n 2, 1) := by decide +kernel
theorem dX4_firstFault_69 : decode cX4_firstFault 69 = .ok (.ifCond .gt 7, 3) := by decide +kernel
theorem dX4_firstFault_72 : decode cX4_firstFault 72 = .ok (.iload_n 1, 1) := by decide +kernel
theorem dX4_firstFault_73 : decode cX4_firstFault 73 = .ok (.ifCond .ne 10, 3) := by decide +kernel
theorem dX4_firstFault_76 : decode cX4_firstFault 76 = .ok (.aload_n 0, 1) := by decide +kernel
theorem dX4_firstFault_77 : decode cX4_firstFault 77 = .ok (.getfield 75, 3) := by decide +kernel
theorem dX4_firstFault_80 : decode cX4_firstFault 80 = .ok (.goto 5, 3) := by decide +kernel
theorem dX4_firstFault_83 : decode cX4_firstFault 83 = .ok (.bipush (-9), 2) := by decide +kernel
theorem dX4_firstFault_85 : decode cX4_firstFault 85 = .ok (.ireturn, 1) := by decide +kernel
theorem dX4_fault_0 : decode cX4_fault 0 = .ok (.aload_n 0, 1) := by decide +kernel
theorem dX4_fault_1 : decode cX4_fault 1 = .ok (.iload_n 1, 1) := by decide +kernel
theorem dX4_fault_2 : decode cX4_fault 2 = .ok (.invokevirtual 98, 3) := by decide +kernel
theorem dX4_fault_5 : decode cX4_fault 5 = .ok (.astore_n 2, 1) := by decide +kernel
theorem dX4_fault_6 : decode cX4_fault 6 = .ok (.aload_n 0, 1) := by decide +kernel
theorem dX4_fault_7 : decode cX4_fault 7 = .ok (.aload_n 2, 1) := by decide +kernel
theorem dX4_fault_8 : decode cX4_fault 8 = .ok (.invokevirtual 71, 3) := by decide +kernel
theorem dX4_fault_11 : decode cX4_fault 11 = .ok (.istore_n 3, 1) := by decide +kernel
theorem dX4_fault_12 : decode cX4_fault 12 = .ok (.aload_n 2, 1) := by decide +kernel
theorem dX4_fault_13 : decode cX4_fault 13 = .ok (.ifnull 7, 3) := by decide +kernel
theorem dX4_fault_16 : decode cX4_fault 16 = .ok (.iload_n 3, 1) := by decide +kernel
theorem dX4_fault_17 : decode cX4_fault 17 = .ok (.ifCond .eq 5, 3) := by decide +kernel
theorem dX4_fault_20 : decode cX4_fault 20 = .ok (.iload_n 3, 1) := by decide +kernel
theorem dX4_fault_21 : decode cX4_fault 21 = .ok (.ireturn, 1) := by decide +kernel
theorem dX4_fault_22 : decode cX4_fault 22 = .ok (.aload_n 2, 1) := by decide +kernel
theorem dX4_fault_23 : decode cX4_fault 23 = .ok (.invokestatic 101, 3) := by decide +kernel
theorem dX4_fault_26 : decode cX4_fault 26 = .ok (.ireturn, 1) := by decide +kernel
theorem dX2_takeSign_0 : decode cX2_takeSign 0 = .ok (.aload_n 0, 1) := by decide +kernel
theorem dX2_takeSign_1 : decode cX2_takeSign 1 = .ok (.getfield 9, 3) := by decide +kernel
theorem dX2_takeSign_4 : decode cX2_takeSign 4 = .ok (.ifCond .lt 12, 3) := by decide +kernel
theorem dX2_takeSign_7 : decode cX2_takeSign 7 = .ok (.aload_n 0, 1) := by decide +kernel
theorem dX2_takeSign_8 : decode cX2_takeSign 8 = .ok (.getfield 9, 3) := by decide +kernel
theorem dX2_takeSign_11 : decode cX2_takeSign 11 = .ok (.bipush 8, 2) := by decide +kernel
theorem dX2_takeSign_13 : decode cX2_takeSign 13 = .ok (.if_icmp .lt 4, 3) := by decide +kernel
theorem dX2_takeSign_16 : decode cX2_takeSign 16 = .ok (.return_, 1) := by decide +kernel
theorem dX2_takeSign_17 : decode cX2_takeSign 17 = .ok (.iload_n 1, 1) := by decide +kernel
theorem dX2_takeSign_18 : decode cX2_takeSign 18 = .ok (.tableswitch 94 0 3 #[30, 46, 62, 78], 30) := by decide +kernel
theorem dX2_takeSign_48 : decode cX2_takeSign 48 = .ok (.aload_n 0, 1) := by decide +kernel
theorem dX2_takeSign_49 : decode cX2_takeSign 49 = .ok (.getfield 15, 3) := by decide +kernel
theorem dX2_takeSign_52 : decode cX2_takeSign 52 = .ok (.aload_n 0, 1) := by decide +kernel
theorem dX2_takeSign_53 : decode cX2_takeSign 53 = .ok (.getfield 9, 3) := by decide +kernel
theorem dX2_takeSign_56 : decode cX2_takeSign 56 = .ok (.iload_n 2, 1) := by decide +kernel
theorem dX2_takeSign_57 : decode cX2_takeSign 57 = .ok (.invokestatic 75, 3) := by decide +kernel
theorem dX2_takeSign_60 : decode cX2_takeSign 60 = .ok (.iastore, 1) := by decide +kernel
theorem dX2_takeSign_61 : decode cX2_takeSign 61 = .ok (.goto 64, 3) := by decide +kernel
theorem dX2_takeSign_64 : decode cX2_takeSign 64 = .ok (.aload_n 0, 1) := by decide +kernel
theorem dX2_takeSign_65 : decode cX2_takeSign 65 = .ok (.getfield 19, 3) := by decide +kernel
theorem dX2_takeSign_68 : decode cX2_takeSign 68 = .ok (.aload_n 0, 1) := by decide +kernel
theorem dX2_takeSign_69 : decode cX2_takeSign 69 = .ok (.getfield 9, 3) := by decide +kernel
theorem dX2_takeSign_72 : decode cX2_takeSign 72 = .ok (.iload_n 2, 1) := by decide +kernel
theorem dX2_takeSign_73 : decode cX2_takeSign 73 = .ok (.bipush 48, 2) := by decide +kernel
theorem dX2_takeSign_75 : decode cX2_takeSign 75 = .ok (.isub, 1) := by decide +kernel
theorem dX2_takeSign_76 : decode cX2_takeSign 76 = .ok (.iastore, 1) := by decide +kernel
theorem dX2_takeSign_77 : decode cX2_takeSign 77 = .ok (.goto 48, 3) := by decide +kernel
theorem dX2_takeSign_80 : decode cX2_takeSign 80 = .ok (.aload_n 0, 1) := by decide +kernel
theorem dX2_takeSign_81 : decode cX2_takeSign 81 = .ok (.getfield 22, 3) := by decide +kernel
theorem dX2_takeSign_84 : decode cX2_takeSign 84 = .ok (.aload_n 0, 1) := by decide +kernel
theorem dX2_takeSign_85 : decode cX2_takeSign 85 = .ok (.getfield 9, 3) := by decide +kernel
theorem dX2_takeSign_88 : decode cX2_takeSign 88 = .ok (.iload_n 2, 1) := by decide +kernel
theorem dX2_takeSign_89 : decode cX2_takeSign 89 = .ok (.bipush 48, 2) := by decide +kernel
theorem dX2_takeSign_91 : decode cX2_takeSign 91 = .ok (.isub, 1) := by decide +kernel
theorem dX2_takeSign_92 : decode cX2_takeSign 92 = .ok (.iastore, 1) := by decide +kernel
theorem dX2_takeSign_93 : decode cX2_takeSign 93 = .ok (.goto 32, 3) := by decide +kernel
theorem dX2_takeSign_96 : decode cX2_takeSign 96 = .ok (.aload_n 0, 1) := by decide +kernel
theorem dX2_takeSign_97 : decode cX2_takeSign 97 = .ok (.getfield 25, 3) := by decide +kernel
theorem dX2_takeSign_100 : decode cX2_takeSign 100 = .ok (.aload_n 0, 1) := by decide +kernel
theorem dX2_takeSign_101 : decode cX2_takeSign 101 = .ok (.getfield 9, 3) := by decide +kernel
theorem dX2_takeSign_104 : decode cX2_takeSign 104 = .ok (.iload_n 2, 1) := by decide +kernel
theorem dX2_takeSign_105 : decode cX2_takeSign 105 = .ok (.bipush 48, 2) := by decide +kernel
theorem dX2_takeSign_107 : decode cX2_takeSign 107 = .ok (.isub, 1) := by decide +kernel
theorem dX2_takeSign_108 : decode cX2_takeSign 108 = .ok (.iastore, 1) := by decide +kernel
theorem dX2_takeSign_109 : decode cX2_takeSign 109 = .ok (.goto 16, 3) := by decide +kernel
theorem dX2_takeSign_112 : decode cX2_takeSign 112 = .ok (.aload_n 0, 1) := by decide +kernel
theorem dX2_takeSign_113 : decode cX2_takeSign 113 = .ok (.getfield 28, 3) := by decide +kernel
theorem dX2_takeSign_116 : decode cX2_takeSign 116 = .ok (.aload_n 0, 1) := by decide +kernel
theorem dX2_takeSign_117 : decode cX2_takeSign 117 = .ok (.getfield 9, 3) := by decide +kernel
theorem dX2_takeSign_120 : decode cX2_takeSign 120 = .ok (.iload_n 2, 1) := by decide +kernel
theorem dX2_takeSign_121 : decode cX2_takeSign 121 = .ok (.bipush 48, 2) := by decide +kernel
theorem dX2_takeSign_123 : decode cX2_takeSign 123 = .ok (.isub, 1) := by decide +kernel
theorem dX2_takeSign_124 : decode cX2_takeSign 124 = .ok (.iastore, 1) := by decide +kernel
theorem dX2_takeSign_125 : decode cX2_takeSign 125 = .ok (.return_, 1) := by decide +kernel
theorem dX2_has_0 : decode cX2_has 0 = .ok (.iload_n 1, 1) := by decide +kernel
theorem dX2_has_1 : decode cX2_has 1 = .ok (.ifCond .lt 15, 3) := by decide +kernel
theorem dX2_has_4 : decode cX2_has 4 = .ok (.iload_n 1, 1) := by decide +kernel
theorem dX2_has_5 : decode cX2_has 5 = .ok (.aload_n 0, 1) := by decide +kernel
theorem dX2_has_6 : decode cX2_has 6 = .ok (.getfield 9, 3) := by decide +kernel
theorem dX2_has_9 : decode cX2_has 9 = .ok (.if_icmp .ge 7, 3) := by decide +kernel
theorem dX2_has_12 : decode cX2_has 12 = .ok (.iconst 1, 1) := by decide +kernel
theorem dX2_has_13 : decode cX2_has 13 = .ok (.goto 4, 3) := by decide +kernel
theorem dX2_has_16 : decode cX2_has 16 = .ok (.iconst 0, 1) := by decide +kernel
theorem dX2_has_17 : decode cX2_has 17 = .ok (.ireturn, 1) := by decide +kernel
theorem dX2_valueAs_0 : decode cX2_valueAs 0 = .ok (.aload_n 0, 1) := by decide +kernel
theorem dX2_valueAs_1 : decode cX2_valueAs 1 = .ok (.iload_n 1, 1) := by decide +kernel
theorem dX2_valueAs_2 : decode cX2_valueAs 2 = .ok (.invokevirtual 87, 3) := by decide +kernel
theorem dX2_valueAs_5 : decode cX2_valueAs 5 = .ok (.ifCond .ne 5, 3) := by decide +kernel
theorem dX2_valueAs_8 : decode cX2_valueAs 8 = .ok (.iconst 0, 1) := by decide +kernel
theorem dX2_valueAs_9 : decode cX2_valueAs 9 = .ok (.ireturn, 1) := by decide +kernel
theorem dX2_valueAs_10 : decode cX2_valueAs 10 = .ok (.aload_n 0, 1) := by decide +kernel
theorem dX2_valueAs_11 : decode cX2_valueAs 11 = .ok (.getfield 31, 3) := by decide +kernel
theorem dX2_valueAs_14 : decode cX2_valueAs 14 = .ok (.iload_n 1, 1) := by decide +kernel
theorem dX2_valueAs_15 : decode cX2_valueAs 15 = .ok (.iaload, 1) := by decide +kernel
theorem dX2_valueAs_16 : decode cX2_valueAs 16 = .ok (.iconst 5, 1) := by decide +kernel
theorem dX2_valueAs_17 : decode cX2_valueAs 17 = .ok (.ishr, 1) := by decide +kernel
theorem dX2_valueAs_18 : decode cX2_valueAs 18 = .ok (.iconst 1, 1) := by decide +kernel
theorem dX2_valueAs_19 : decode cX2_valueAs 19 = .ok (.iand, 1) := by decide +kernel
theorem dX2_valueAs_20 : decode cX2_valueAs 20 = .ok (.ifCond .eq 9, 3) := by decide +kernel
theorem dX2_valueAs_23 : decode cX2_valueAs 23 = .ok (.iload_n 3, 1) := by decide +kernel
theorem dX2_valueAs_24 : decode cX2_valueAs 24 = .ok (.iconst 3, 1) := by decide +kernel
theorem dX2_valueAs_25 : decode cX2_valueAs 25 = .ok (.iadd, 1) := by decide +kernel
theorem dX2_valueAs_26 : decode cX2_valueAs 26 = .ok (.goto 4, 3) := by decide +kernel
theorem dX2_valueAs_29 : decode cX2_valueAs 29 = .ok (.iload_n 3, 1) := by decide +kernel
theorem dX2_valueAs_30 : decode cX2_valueAs 30 = .ok (.istore 4, 2) := by decide +kernel
theorem dX2_valueAs_32 : decode cX2_valueAs 32 = .ok (.iload_n 2, 1) := by decide +kernel
theorem dX2_valueAs_33 : decode cX2_valueAs 33 = .ok (.tableswitch 69 1 5 #[35, 40, 43, 52, 57], 35) := by decide +kernel
theorem dX2_valueAs_68 : decode cX2_valueAs 68 = .ok (.iload_n 3, 1) := by decide +kernel
theorem dX2_valueAs_69 : decode cX2_valueAs 69 = .ok (.bipush 10, 2) := by decide +kernel
theorem dX2_valueAs_71 : decode cX2_valueAs 71 = .ok (.isub, 1) := by decide +kernel
theorem dX2_valueAs_72 : decode cX2_valueAs 72 = .ok (.ireturn, 1) := by decide +kernel
theorem dX2_valueAs_73 : decode cX2_valueAs 73 = .ok (.iload 4, 2) := by decide +kernel
theorem dX2_valueAs_75 : decode cX2_valueAs 75 = .ok (.ireturn, 1) := by decide +kernel
theorem dX2_valueAs_76 : decode cX2_valueAs 76 = .ok (.iload_n 3, 1) := by decide +kernel
theorem dX2_valueAs_77 : decode cX2_valueAs 77 = .ok (.aload_n 0, 1) := by decide +kernel
theorem dX2_valueAs_78 : decode cX2_valueAs 78 = .ok (.getfield 25, 3) := by decide +kernel
theorem dX2_valueAs_81 : decode cX2_valueAs 81 = .ok (.iload_n 1, 1) := by decide +kernel
theorem dX2_valueAs_82 : decode cX2_valueAs 82 = .ok (.iaload, 1) := by decide +kernel
theorem dX2_valueAs_83 : decode cX2_valueAs 83 = .ok (.imul, 1) := by decide +kernel
theorem dX2_valueAs_84 : decode cX2_valueAs 84 = .ok (.ireturn, 1) := by decide +kernel
theorem dX2_valueAs_85 : decode cX2_valueAs 85 = .ok (.iconst 2, 1) := by decide +kernel
theorem dX2_valueAs_86 : decode cX2_valueAs 86 = .ok (.iload 4, 2) := by decide +kernel
theorem dX2_valueAs_88 : decode cX2_valueAs 88 = .ok (.imul, 1) := by decide +kernel
theorem dX2_valueAs_89 : decode cX2_valueAs 89 = .ok (.ireturn, 1) := by decide +kernel
theorem dX2_valueAs_90 : decode cX2_valueAs 90 = .ok (.iload_n 3, 1) := by decide +kernel
theorem dX2_valueAs_91 : decode cX2_valueAs 91 = .ok (.bipush 10, 2) := by decide +kernel
theorem dX2_valueAs_93 : decode cX2_valueAs 93 = .ok (.isub, 1) := by decide +kernel
theorem dX2_valueAs_94 : decode cX2_valueAs 94 = .ok (.aload_n 0, 1) := by decide +kernel
theorem dX2_valueAs_95 : decode cX2_valueAs 95 = .ok (.getfield 25, 3) := by decide +kernel
theorem dX2_valueAs_98 : decode cX2_valueAs 98 = .ok (.iload_n 1, 1) := by decide +kernel
theorem dX2_valueAs_99 : decode cX2_valueAs 99 = .ok (.iaload, 1) := by decide +kernel
theorem dX2_valueAs_100 : decode cX2_valueAs 100 = .ok (.isub, 1) := by decide +kernel
theorem dX2_valueAs_101 : decode cX2_valueAs 101 = .ok (.ireturn, 1) := by decide +kernel
theorem dX2_valueAs_102 : decode cX2_valueAs 102 = .ok (.iload_n 3, 1) := by decide +kernel
theorem dX2_valueAs_103 : decode cX2_valueAs 103 = .ok (.ireturn, 1) := by decide +kernel
theorem dX2_apartFrom_0 : decode cX2_apartFrom 0 = .ok (.iconst 0, 1) := by decide +kernel
theorem dX2_apartFrom_1 : decode cX2_apartFrom 1 = .ok (.istore_n 2, 1) := by decide +kernel
theorem dX2_apartFrom_2 : decode cX2_apartFrom 2 = .ok (.iconst 0, 1) := by decide +kernel
theorem dX2_apartFrom_3 : decode cX2_apartFrom 3 = .ok (.istore_n 3, 1) := by decide +kernel
theorem dX2_apartFrom_4 : decode cX2_apartFrom 4 = .ok (.iload_n 3, 1) := by decide +kernel
theorem dX2_apartFrom_5 : decode cX2_apartFrom 5 = .ok (.aload_n 0, 1) := by decide +kernel
theorem dX2_apartFrom_6 : decode cX2_apartFrom 6 = .ok (.getfield 9, 3) := by decide +kernel
theorem dX2_apartFrom_9 : decode cX2_apartFrom 9 = .ok (.if_icmp .ge 26, 3) := by decide +kernel
theorem dX2_apartFrom_12 : decode cX2_apartFrom 12 = .ok (.aload_n 0, 1) := by decide +kernel
theorem dX2_apartFrom_13 : decode cX2_apartFrom 13 = .ok (.getfield 31, 3) := by decide +kernel
theorem dX2_apartFrom_16 : decode cX2_apartFrom 16 = .ok (.iload_n 3, 1) := by decide +kernel
theorem dX2_apartFrom_17 : decode cX2_apartFrom 17 = .ok (.iaload, 1) := by decide +kernel
theorem dX2_apartFrom_18 : decode cX2_apartFrom 18 = .ok (.iload_n 1, 1) := by decide +kernel
theorem dX2_apartFrom_19 : decode cX2_apartFrom 19 = .ok (.iand, 1) := by decide +kernel
theorem dX2_apartFrom_20 : decode cX2_apartFrom 20 = .ok (.ifCond .ne 9, 3) := by decide +kernel
theorem dX2_apartFrom_23 : decode cX2_apartFrom 23 = .ok (.iload_n 2, 1) := by decide +kernel
theorem dX2_apartFrom_24 : decode cX2_apartFrom 24 = .ok (.iconst 1, 1) := by decide +kernel
theorem dX2_apartFrom_25 : decode cX2_apartFrom 25 = .ok (.iload_n 3, 1) := by decide +kernel
theorem dX2_apartFrom_26 : decode cX2_apartFrom 26 = .ok (.ishl, 1) := by decide +kernel
theorem dX2_apartFrom_27 : decode cX2_apartFrom 27 = .ok (.ior, 1) := by decide +kernel
theorem dX2_apartFrom_28 : decode cX2_apartFrom 28 = .ok (.istore_n 2, 1) := by decide +kernel
theorem dX2_apartFrom_29 : decode cX2_apartFrom 29 = .ok (.iinc 3 1, 3) := by decide +kernel
theorem dX2_apartFrom_32 : decode cX2_apartFrom 32 = .ok (.goto (-28), 3) := by decide +kernel
theorem dX2_apartFrom_35 : decode cX2_apartFrom 35 = .ok (.iload_n 2, 1) := by decide +kernel
theorem dX2_apartFrom_36 : decode cX2_apartFrom 36 = .ok (.ireturn, 1) := by decide +kernel
theorem dX2_reckonSetsTo_0 : decode cX2_reckonSetsTo 0 = .ok (.iconst 1, 1) := by decide +kernel
theorem dX2_reckonSetsTo_1 : decode cX2_reckonSetsTo 1 = .ok (.iload_n 1, 1) := by decide +kernel
theorem dX2_reckonSetsTo_2 : decode cX2_reckonSetsTo 2 = .ok (.ishl, 1) := by decide +kernel
theorem dX2_reckonSetsTo_3 : decode cX2_reckonSetsTo 3 = .ok (.istore_n 2, 1) := by decide +kernel
theorem dX2_reckonSetsTo_4 : decode cX2_reckonSetsTo 4 = .ok (.aload_n 0, 1) := by decide +kernel
theorem dX2_reckonSetsTo_5 : decode cX2_reckonSetsTo 5 = .ok (.aload_n 0, 1) := by decide +kernel
theorem dX2_reckonSetsTo_6 : decode cX2_reckonSetsTo 6 = .ok (.getfield 31, 3) := by decide +kernel
theorem dX2_reckonSetsTo_9 : decode cX2_reckonSetsTo 9 = .ok (.iload_n 1, 1) := by decide +kernel
theorem dX2_reckonSetsTo_10 : decode cX2_reckonSetsTo 10 = .ok (.iaload, 1) := by decide +kernel
theorem dX2_reckonSetsTo_11 : decode cX2_reckonSetsTo 11 = .ok (.invokevirtual 78, 3) := by decide +kernel
theorem dX2_reckonSetsTo_14 : decode cX2_reckonSetsTo 14 = .ok (.istore_n 3, 1) := by decide +kernel
theorem dX2_reckonSetsTo_15 : decode cX2_reckonSetsTo 15 = .ok (.iconst 0, 1) := by decide +kernel
theorem dX2_reckonSetsTo_16 : decode cX2_reckonSetsTo 16 = .ok (.istore 4, 2) := by decide +kernel
theorem dX2_reckonSetsTo_18 : decode cX2_reckonSetsTo 18 = .ok (.iload 4, 2) := by decide +kernel
theorem dX2_reckonSetsTo_20 : decode cX2_reckonSetsTo 20 = .ok (.iload_n 2, 1) := by decide +kernel
theorem dX2_reckonSetsTo_21 : decode cX2_reckonSetsTo 21 = .ok (.if_icmp .ge 139, 3) := by decide +kernel
theorem dX2_reckonSetsTo_24 : decode cX2_reckonSetsTo 24 = .ok (.iload 4, 2) := by decide +kernel
theorem dX2_reckonSetsTo_26 : decode cX2_reckonSetsTo 26 = .ok (.iload_n 2, 1) := by decide +kernel
theorem dX2_reckonSetsTo_27 : decode cX2_reckonSetsTo 27 = .ok (.ior, 1) := by decide +kernel
theorem dX2_reckonSetsTo_28 : decode cX2_reckonSetsTo 28 = .ok (.sipush 256, 3) := by decide +kernel
theorem dX2_reckonSetsTo_31 : decode cX2_reckonSetsTo 31 = .ok (.if_icmp .ge 129, 3) := by decide +kernel
theorem dX2_reckonSetsTo_34 : decode cX2_reckonSetsTo 34 = .ok (.iload 4, 2) := by decide +kernel
theorem dX2_reckonSetsTo_36 : decode cX2_reckonSetsTo 36 = .ok (.iload_n 2, 1) := by decide +kernel
theorem dX2_reckonSetsTo_37 : decode cX2_reckonSetsTo 37 = .ok (.ior, 1) := by decide +kernel
theorem dX2_reckonSetsTo_38 : decode cX2_reckonSetsTo 38 = .ok (.istore 5, 2) := by decide +kernel
theorem dX2_reckonSetsTo_40 : decode cX2_reckonSetsTo 40 = .ok (.aload_n 0, 1) := by decide +kernel
theorem dX2_reckonSetsTo_41 : decode cX2_reckonSetsTo 41 = .ok (.getfield 37, 3) := by decide +kernel
theorem dX2_reckonSetsTo_44 : decode cX2_reckonSetsTo 44 = .ok (.iload 5, 2) := by decide +kernel
theorem dX2_reckonSetsTo_46 : decode cX2_reckonSetsTo 46 = .ok (.aload_n 0, 1) := by decide +kernel
theorem dX2_reckonSetsTo_47 : decode cX2_reckonSetsTo 47 = .ok (.getfield 37, 3) := by decide +kernel
theorem dX2_reckonSetsTo_50 : decode cX2_reckonSetsTo 50 = .ok (.iload 4, 2) := by decide +kernel
theorem dX2_reckonSetsTo_52 : decode cX2_reckonSetsTo 52 = .ok (.iaload, 1) := by decide +kernel
theorem dX2_reckonSetsTo_53 : decode cX2_reckonSetsTo 53 = .ok (.aload_n 0, 1) := by decide +kernel
theorem dX2_reckonSetsTo_54 : decode cX2_reckonSetsTo 54 = .ok (.getfield 31, 3) := by decide +kernel
theorem dX2_reckonSetsTo_57 : decode cX2_reckonSetsTo 57 = .ok (.iload_n 1, 1) := by decide +kernel
theorem dX2_reckonSetsTo_58 : decode cX2_reckonSetsTo 58 = .ok (.iaload, 1) := by decide +kernel
theorem dX2_reckonSetsTo_59 : decode cX2_reckonSetsTo 59 = .ok (.ior, 1) := by decide +kernel
theorem dX2_reckonSetsTo_60 : decode cX2_reckonSetsTo 60 = .ok (.iastore, 1) := by decide +kernel
theorem dX2_reckonSetsTo_61 : decode cX2_reckonSetsTo 61 = .ok (.aload_n 0, 1) := by decide +kernel
theorem dX2_reckonSetsTo_62 : decode cX2_reckonSetsTo 62 = .ok (.getfield 40, 3) := by decide +kernel
theorem dX2_reckonSetsTo_65 : decode cX2_reckonSetsTo 65 = .ok (.iload 5, 2) := by decide +kernel
theorem dX2_reckonSetsTo_67 : decode cX2_reckonSetsTo 67 = .ok (.aload_n 0, 1) := by decide +kernel
theorem dX2_reckonSetsTo_68 : decode cX2_reckonSetsTo 68 = .ok (.getfield 40, 3) := by decide +kernel
theorem dX2_reckonSetsTo_71 : decode cX2_reckonSetsTo 71 = .ok (.iload 4, 2) := by decide +kernel
theorem dX2_reckonSetsTo_73 : decode cX2_reckonSetsTo 73 = .ok (.iaload, 1) := by decide +kernel
theorem dX2_reckonSetsTo_74 : decode cX2_reckonSetsTo 74 = .ok (.aload_n 0, 1) := by decide +kernel
theorem dX2_reckonSetsTo_75 : decode cX2_reckonSetsTo 75 = .ok (.getfield 34, 3) := by decide +kernel
theorem dX2_reckonSetsTo_78 : decode cX2_reckonSetsTo 78 = .ok (.iload_n 1, 1) := by decide +kernel
theorem dX2_reckonSetsTo_79 : decode cX2_reckonSetsTo 79 = .ok (.iaload, 1) := by decide +kernel
theorem dX2_reckonSetsTo_80 : decode cX2_reckonSetsTo 80 = .ok (.iadd, 1) := by decide +kernel
theorem dX2_reckonSetsTo_81 : decode cX2_reckonSetsTo 81 = .ok (.iastore, 1) := by decide +kernel
theorem dX2_reckonSetsTo_82 : decode cX2_reckonSetsTo 82 = .ok (.aload_n 0, 1) := by decide +kernel
theorem dX2_reckonSetsTo_83 : decode cX2_reckonSetsTo 83 = .ok (.getfield 43, 3) := by decide +kernel
theorem dX2_reckonSetsTo_86 : decode cX2_reckonSetsTo 86 = .ok (.iload 5, 2) := by decide +kernel
theorem dX2_reckonSetsTo_88 : decode cX2_reckonSetsTo 88 = .ok (.aload_n 0, 1) := by decide +kernel
theorem dX2_reckonSetsTo_89 : decode cX2_reckonSetsTo 89 = .ok (.getfield 43, 3) := by decide +kernel
theorem dX2_reckonSetsTo_92 : decode cX2_reckonSetsTo 92 = .ok (.iload 4, 2) := by decide +kernel
theorem dX2_reckonSetsTo_94 : decode cX2_reckonSetsTo 94 = .ok (.baload, 1) := by decide +kernel
theorem dX2_reckonSetsTo_95 : decode cX2_reckonSetsTo 95 = .ok (.ifCond .eq 24, 3) := by decide +kernel
theorem dX2_reckonSetsTo_98 : decode cX2_reckonSetsTo 98 = .ok (.aload_n 0, 1) := by decide +kernel
theorem dX2_reckonSetsTo_99 : decode cX2_reckonSetsTo 99 = .ok (.getfield 37, 3) := by decide +kernel
theorem dX2_reckonSetsTo_102 : decode cX2_reckonSetsTo 102 = .ok (.iload 4, 2) := by decide +kernel
theorem dX2_reckonSetsTo_104 : decode cX2_reckonSetsTo 104 = .ok (.iaload, 1) := by decide +kernel
theorem dX2_reckonSetsTo_105 : decode cX2_reckonSetsTo 105 = .ok (.aload_n 0, 1) := by decide +kernel
theorem dX2_reckonSetsTo_106 : decode cX2_reckonSetsTo 106 = .ok (.getfield 31, 3) := by decide +kernel
theorem dX2_reckonSetsTo_109 : decode cX2_reckonSetsTo 109 = .ok (.iload_n 1, 1) := by decide +kernel
theorem dX2_reckonSetsTo_110 : decode cX2_reckonSetsTo 110 = .ok (.iaload, 1) := by decide +kernel
theorem dX2_reckonSetsTo_111 : decode cX2_reckonSetsTo 111 = .ok (.iand, 1) := by decide +kernel
theorem dX2_reckonSetsTo_112 : decode cX2_reckonSetsTo 112 = .ok (.ifCond .ne 7, 3) := by decide +kernel
theorem dX2_reckonSetsTo_115 : decode cX2_reckonSetsTo 115 = .ok (.iconst 1, 1) := by decide +kernel
theorem dX2_reckonSetsTo_116 : decode cX2_reckonSetsTo 116 = .ok (.goto 4, 3) := by decide +kernel
theorem dX2_reckonSetsTo_119 : decode cX2_reckonSetsTo 119 = .ok (.iconst 0, 1) := by decide +kernel
theorem dX2_reckonSetsTo_120 : decode cX2_reckonSetsTo 120 = .ok (.bastore, 1) := by decide +kernel
theorem dX2_reckonSetsTo_121 : decode cX2_reckonSetsTo 121 = .ok (.aload_n 0, 1) := by decide +kernel
theorem dX2_reckonSetsTo_122 : decode cX2_reckonSetsTo 122 = .ok (.getfield 47, 3) := by decide +kernel
theorem dX2_reckonSetsTo_125 : decode cX2_reckonSetsTo 125 = .ok (.iload 5, 2) := by decide +kernel
theorem dX2_reckonSetsTo_127 : decode cX2_reckonSetsTo 127 = .ok (.aload_n 0, 1) := by decide +kernel
theorem dX2_reckonSetsTo_128 : decode cX2_reckonSetsTo 128 = .ok (.getfield 47, 3) := by decide +kernel
theorem dX2_reckonSetsTo_131 : decode cX2_reckonSetsTo 131 = .ok (.iload 4, 2) := by decide +kernel
theorem dX2_reckonSetsTo_133 : decode cX2_reckonSetsTo 133 = .ok (.iaload, 1) := by decide +kernel
theorem dX2_reckonSetsTo_134 : decode cX2_reckonSetsTo 134 = .ok (.aload_n 0, 1) := by decide +kernel
theorem dX2_reckonSetsTo_135 : decode cX2_reckonSetsTo 135 = .ok (.getfield 34, 3) := by decide +kernel
theorem dX2_reckonSetsTo_138 : decode cX2_reckonSetsTo 138 = .ok (.iload_n 1, 1) := by decide +kernel
theorem dX2_reckonSetsTo_139 : decode cX2_reckonSetsTo 139 = .ok (.iaload, 1) := by decide +kernel
theorem dX2_reckonSetsTo_140 : decode cX2_reckonSetsTo 140 = .ok (.aload_n 0, 1) := by decide +kernel
theorem dX2_reckonSetsTo_141 : decode cX2_reckonSetsTo 141 = .ok (.getfield 47, 3) := by decide +kernel
theorem dX2_reckonSetsTo_144 : decode cX2_reckonSetsTo 144 = .ok (.iload 4, 2) := by decide +kernel
theorem dX2_reckonSetsTo_146 : decode cX2_reckonSetsTo 146 = .ok (.iload_n 3, 1) := by decide +kernel
theorem dX2_reckonSetsTo_147 : decode cX2_reckonSetsTo 147 = .ok (.iand, 1) := by decide +kernel
theorem dX2_reckonSetsTo_148 : decode cX2_reckonSetsTo 148 = .ok (.iaload, 1) := by decide +kernel
theorem dX2_reckonSetsTo_149 : decode cX2_reckonSetsTo 149 = .ok (.iadd, 1) := by decide +kernel
theorem dX2_reckonSetsTo_150 : decode cX2_reckonSetsTo 150 = .ok (.invokestatic 81, 3) := by decide +kernel
theorem dX2_reckonSetsTo_153 : decode cX2_reckonSetsTo 153 = .ok (.iastore, 1) := by decide +kernel
theorem dX2_reckonSetsTo_154 : decode cX2_reckonSetsTo 154 = .ok (.iinc 4 1, 3) := by decide +kernel
theorem dX2_reckonSetsTo_157 : decode cX2_reckonSetsTo 157 = .ok (.goto (-139), 3) := by decide +kernel
theorem dX2_reckonSetsTo_160 : decode cX2_reckonSetsTo 160 = .ok (.return_, 1) := by decide +kernel
theorem dX2_read_0 : decode cX2_read 0 = .ok (.aload_n 0, 1) := by decide +kernel
theorem dX2_read_1 : decode cX2_read 1 = .ok (.iconst 0, 1) := by decide +kernel
theorem dX2_read_2 : decode cX2_read 2 = .ok (.putfield 9, 3) := by decide +kernel
theorem dX2_read_5 : decode cX2_read 5 = .ok (.iconst 0, 1) := by decide +kernel
theorem dX2_read_6 : decode cX2_read 6 = .ok (.istore_n 2, 1) := by decide +kernel
theorem dX2_read_7 : decode cX2_read 7 = .ok (.iconst 0, 1) := by decide +kernel
theorem dX2_read_8 : decode cX2_read 8 = .ok (.istore_n 3, 1) := by decide +kernel
theorem dX2_read_9 : decode cX2_read 9 = .ok (.iload_n 3, 1) := by decide +kernel
theorem dX2_read_10 : decode cX2_read 10 = .ok (.aload_n 1, 1) := by decide +kernel
theorem dX2_read_11 : decode cX2_read 11 = .ok (.getfield 54, 3) := by decide +kernel
theorem dX2_read_14 : decode cX2_read 14 = .ok (.if_icmp .ge 59, 3) := by decide +kernel
theorem dX2_read_17 : decode cX2_read 17 = .ok (.aload_n 0, 1) := by decide +kernel
theorem dX2_read_18 : decode cX2_read 18 = .ok (.getfield 9, 3) := by decide +kernel
theorem dX2_read_21 : decode cX2_read 21 = .ok (.bipush 8, 2) := by decide +kernel
theorem dX2_read_23 : decode cX2_read 23 = .ok (.if_icmp .ge 50, 3) := by decide +kernel
theorem dX2_read_26 : decode cX2_read 26 = .ok (.aload_n 1, 1) := by decide +kernel
theorem dX2_read_27 : decode cX2_read 27 = .ok (.iload_n 3, 1) := by decide +kernel
theorem dX2_read_28 : decode cX2_read 28 = .ok (.invokevirtual 59, 3) := by decide +kernel
theorem dX2_read_31 : decode cX2_read 31 = .ok (.istore 4, 2) := by decide +kernel
theorem dX2_read_33 : decode cX2_read 33 = .ok (.iload 4, 2) := by decide +kernel
theorem dX2_read_35 : decode cX2_read 35 = .ok (.bipush 32, 2) := by decide +kernel
theorem dX2_read_37 : decode cX2_read 37 = .ok (.if_icmp .eq 30, 3) := by decide +kernel
theorem dX2_read_40 : decode cX2_read 40 = .ok (.aload_n 0, 1) := by decide +kernel
theorem dX2_read_41 : decode cX2_read 41 = .ok (.iload_n 2, 1) := by decide +kernel
theorem dX2_read_42 : decode cX2_read 42 = .ok (.iload 4, 2) := by decide +kernel
theorem dX2_read_44 : decode cX2_read 44 = .ok (.invokevirtual 63, 3) := by decide +kernel
theorem dX2_read_47 : decode cX2_read 47 = .ok (.iinc 2 1, 3) := by decide +kernel
theorem dX2_read_50 : decode cX2_read 50 = .ok (.iload_n 2, 1) := by decide +kernel
theorem dX2_read_51 : decode cX2_read 51 = .ok (.iconst 5, 1) := by decide +kernel
theorem dX2_read_52 : decode cX2_read 52 = .ok (.if_icmp .ne 15, 3) := by decide +kernel
theorem dX2_read_55 : decode cX2_read 55 = .ok (.iconst 0, 1) := by decide +kernel
theorem dX2_read_56 : decode cX2_read 56 = .ok (.istore_n 2, 1) := by decide +kernel
theorem dX2_read_57 : decode cX2_read 57 = .ok (.aload_n 0, 1) := by decide +kernel
theorem dX2_read_58 : decode cX2_read 58 = .ok (.dup, 1) := by decide +kernel
theorem dX2_read_59 : decode cX2_read 59 = .ok (.getfield 9, 3) := by decide +kernel
theorem dX2_read_62 : decode cX2_read 62 = .ok (.iconst 1, 1) := by decide +kernel
theorem dX2_read_63 : decode cX2_read 63 = .ok (.iadd, 1) := by decide +kernel
theorem dX2_read_64 : decode cX2_read 64 = .ok (.putfield 9, 3) := by decide +kernel
theorem dX2_read_67 : decode cX2_read 67 = .ok (.iinc 3 1, 3) := by decide +kernel
theorem dX2_read_70 : decode cX2_read 70 = .ok (.goto (-61), 3) := by decide +kernel
theorem dX2_read_73 : decode cX2_read 73 = .ok (.iconst 0, 1) := by decide +kernel
theorem dX2_read_74 : decode cX2_read 74 = .ok (.istore_n 3, 1) := by decide +kernel
theorem dX2_read_75 : decode cX2_read 75 = .ok (.iload_n 3, 1) := by decide +kernel
theorem dX2_read_76 : decode cX2_read 76 = .ok (.aload_n 0, 1) := by decide +kernel
theorem dX2_read_77 : decode cX2_read 77 = .ok (.getfield 9, 3) := by decide +kernel
theorem dX2_read_80 : decode cX2_read 80 = .ok (.if_icmp .ge 55, 3) := by decide +kernel
theorem dX2_read_83 : decode cX2_read 83 = .ok (.aload_n 0, 1) := by decide +kernel
theorem dX2_read_84 : decode cX2_read 84 = .ok (.getfield 31, 3) := by decide +kernel
theorem dX2_read_87 : decode cX2_read 87 = .ok (.iload_n 3, 1) := by decide +kernel
theorem dX2_read_88 : decode cX2_read 88 = .ok (.iconst 1, 1) := by decide +kernel
theorem dX2_read_89 : decode cX2_read 89 = .ok (.aload_n 0, 1) := by decide +kernel
theorem dX2_read_90 : decode cX2_read 90 = .ok (.getfield 25, 3) := by decide +kernel
theorem dX2_read_93 : decode cX2_read 93 = .ok (.iload_n 3, 1) := by decide +kernel
theorem dX2_read_94 : decode cX2_read 94 = .ok (.iaload, 1) := by decide +kernel
theorem dX2_read_95 : decode cX2_read 95 = .ok (.ishl, 1) := by decide +kernel
theorem dX2_read_96 : decode cX2_read 96 = .ok (.iconst 1, 1) := by decide +kernel
theorem dX2_read_97 : decode cX2_read 97 = .ok (.isub, 1) := by decide +kernel
theorem dX2_read_98 : decode cX2_read 98 = .ok (.aload_n 0, 1) := by decide +kernel
theorem dX2_read_99 : decode cX2_read 99 = .ok (.getfield 22, 3) := by decide +kernel
theorem dX2_read_102 : decode cX2_read 102 = .ok (.iload_n 3, 1) := by decide +kernel
theorem dX2_read_103 : decode cX2_read 103 = .ok (.iaload, 1) := by decide +kernel
theorem dX2_read_104 : decode cX2_read 104 = .ok (.ishl, 1) := by decide +kernel
theorem dX2_read_105 : decode cX2_read 105 = .ok (.iastore, 1) := by decide +kernel
theorem dX2_read_106 : decode cX2_read 106 = .ok (.aload_n 0, 1) := by decide +kernel
theorem dX2_read_107 : decode cX2_read 107 = .ok (.getfield 34, 3) := by decide +kernel
theorem dX2_read_110 : decode cX2_read 110 = .ok (.iload_n 3, 1) := by decide +kernel
theorem dX2_read_111 : decode cX2_read 111 = .ok (.aload_n 0, 1) := by decide +kernel
theorem dX2_read_112 : decode cX2_read 112 = .ok (.iload_n 3, 1) := by decide +kernel
theorem dX2_read_113 : decode cX2_read 113 = .ok (.aload_n 0, 1) := by decide +kernel
theorem dX2_read_114 : decode cX2_read 114 = .ok (.getfield 15, 3) := by decide +kernel
theorem dX2_read_117 : decode cX2_read 117 = .ok (.iload_n 3, 1) := by decide +kernel
theorem dX2_read_118 : decode cX2_read 118 = .ok (.iaload, 1) := by decide +kernel
theorem dX2_read_119 : decode cX2_read 119 = .ok (.aload_n 0, 1) := by decide +kernel
theorem dX2_read_120 : decode cX2_read 120 = .ok (.getfield 28, 3) := by decide +kernel
theorem dX2_read_123 : decode cX2_read 123 = .ok (.iload_n 3, 1) := by decide +kernel
theorem dX2_read_124 : decode cX2_read 124 = .ok (.iaload, 1) := by decide +kernel
theorem dX2_read_125 : decode cX2_read 125 = .ok (.invokevirtual 67, 3) := by decide +kernel
theorem dX2_read_128 : decode cX2_read 128 = .ok (.iastore, 1) := by decide +kernel
theorem dX2_read_129 : decode cX2_read 129 = .ok (.iinc 3 1, 3) := by decide +kernel
theorem dX2_read_132 : decode cX2_read 132 = .ok (.goto (-57), 3) := by decide +kernel
theorem dX2_read_135 : decode cX2_read 135 = .ok (.iconst 0, 1) := by decide +kernel
theorem dX2_read_136 : decode cX2_read 136 = .ok (.istore_n 3, 1) := by decide +kernel
theorem dX2_read_137 : decode cX2_read 137 = .ok (.iload_n 3, 1) := by decide +kernel
theorem dX2_read_138 : decode cX2_read 138 = .ok (.aload_n 0, 1) := by decide +kernel
theorem dX2_read_139 : decode cX2_read 139 = .ok (.getfield 9, 3) := by decide +kernel
theorem dX2_read_142 : decode cX2_read 142 = .ok (.if_icmp .ge 14, 3) := by decide +kernel
theorem dX2_read_145 : decode cX2_read 145 = .ok (.aload_n 0, 1) := by decide +kernel
theorem dX2_read_146 : decode cX2_read 146 = .ok (.iload_n 3, 1) := by decide +kernel
theorem dX2_read_147 : decode cX2_read 147 = .ok (.invokevirtual 71, 3) := by decide +kernel
theorem dX2_read_150 : decode cX2_read 150 = .ok (.iinc 3 1, 3) := by decide +kernel
theorem dX2_read_153 : decode cX2_read 153 = .ok (.goto (-16), 3) := by decide +kernel
theorem dX2_read_156 : decode cX2_read 156 = .ok (.return_, 1) := by decide +kernel
theorem dX2_all_0 : decode cX2_all 0 = .ok (.iconst 1, 1) := by decide +kernel
theorem dX2_all_1 : decode cX2_all 1 = .ok (.aload_n 0, 1) := by decide +kernel
theorem dX2_all_2 : decode cX2_all 2 = .ok (.getfield 9, 3) := by decide +kernel
theorem dX2_all_5 : decode cX2_all 5 = .ok (.ishl, 1) := by decide +kernel
theorem dX2_all_6 : decode cX2_all 6 = .ok (.iconst 1, 1) := by decide +kernel
theorem dX2_all_7 : decode cX2_all 7 = .ok (.isub, 1) := by decide +kernel
theorem dX2_all_8 : decode cX2_all 8 = .ok (.ireturn, 1) := by decide +kernel
def f4_rowAt (x1 : Int32) : Option (Option Nat) :=
    if x1 < 0 then ((some none))
    else (if (6 : Int32) ≤ x1 then ((some none))
    else ((rdR [0, 1, 2, 3, 4, 5] x1).bind fun q3 =>
    (some (some q3))))
set_option maxHeartbeats 4000000 in
set_option maxRecDepth 10000 in
theorem w4_rowAt {ad : Nat → Nat} {X : XX} {R : Option Nat} {M : Mem} (h : Cx layC ad X cX4_rowAt RX4 2 1 (some (.object "PinDuties$Cells")) M (some (rv ad R))) {x1 : Int32} (hF : f4_rowAt x1 = some R) : Wp layC ad X M 0 [(0, .ref (ad 28)), (1, .int x1)] [] := by
  unfold f4_rowAt at hF
  refine R_iload_n (pc := 0) h 1 rfl rfl dX4_rowAt_0 ?_
  refine R_if_lt (pc := 1) (tgt := 19) h dX4_rowAt_1 (by decide) (fun c1 => ?_) (fun c1 => ?_)
  · have hF := itp c1 hF
    refine R_null (pc := 19) h dX4_rowAt_19 ?_
    cases hF
    exact R_areturn (pc := 20) h rfl (Or.inl rfl) rfl rfl dX4_rowAt_20
  · have hF := ifn c1 hF
    refine R_iload_n (pc := 4) h 1 rfl rfl dX4_rowAt_4 ?_
    refine R_bipush (pc := 5) (v := 6) h (by decide) dX4_rowAt_5 ?_
    refine R_icmp_ge (pc := 7) (tgt := 19) h dX4_rowAt_7 (by decide) (fun c2 => ?_) (fun c2 => ?_)
    · have hF := itp c2 hF
      refine R_null (pc := 19) h dX4_rowAt_19 ?_
      cases hF
      exact R_areturn (pc := 20) h rfl (Or.inl rfl) rfl rfl dX4_rowAt_20
    · have hF := ifn c2 hF
      refine R_aload_n (pc := 10) h 0 rfl rfl dX4_rowAt_10 ?_
      refine R_getR (pc := 11) (q1 := 29) h flX4_11 lc_28 rfl dX4_rowAt_11 ?_
      refine R_iload_n (pc := 14) h 1 rfl rfl dX4_rowAt_14 ?_
      obtain ⟨q3, hq3, hF⟩ := bd hF
      refine R_aald (pc := 15) h hq3 (by decide) lc_29 dX4_rowAt_15 ?_
      refine R_goto (pc := 16) (tgt := 20) h dX4_rowAt_16 (by decide) ?_
      cases hF
      exact R_areturn (pc := 20) h rfl (Or.inr ⟨_, rfl⟩) rfl rfl dX4_rowAt_20
theorem c4_rowAt {ad : Nat → Nat} {z : ZZ} {R : Option Nat} {M : Mem} {x1 : Int32} (hF : f4_rowAt x1 = some R) : Con layC ad z yX4_rowAt cX4_rowAt 2 (some (.object "PinDuties$Cells")) 1 M [.ref (ad 28), .int x1] (M) (some (rv ad R)) := con_of (own := RX4) (lv := [(0, .ref (ad 28)), (1, .int x1)]) (by decide +kernel) rfl (Nat.le_of_ble_eq_true rfl) rfl (fun X hz h => w4_rowAt h hF)
def f4_makeCells_N (fu : Nat) (x2 : Int32) (x3 : Int32) (x4 : Int32) (M : Mem) : Option (Mem × Int32) :=
    (some (M, (-1 : Int32)))
set_option maxHeartbeats 4000000 in
set_option maxRecDepth 10000 in
theorem w4_makeCells_N {ad : Nat → Nat} {X : XX} {R : Mem × Int32} {fu : Nat} (h : Cx layC ad X cX4_makeCells RX4 5 1 (some .int) (R.1) (some (.int R.2))) {x2 : Int32} {x3 : Int32} {x4 : Int32} {M : Mem} (hF : f4_makeCells_N fu x2 x3 x4 M = some R) : Wp layC ad X M 0 [(0, .ref (ad 28)), (1, .null), (2, .int x2), (3, .int x3), (4, .int x4)] [] := by
  unfold f4_makeCells_N at hF
  refine R_aload_nN (pc := 0) h 1 rfl rfl dX4_makeCells_0 ?_
  refine R_ifnullN (pc := 1) (tgt := 9) h dX4_makeCells_1 (by decide) ?_
  refine R_iconst (pc := 9) (v := (-1)) h (by decide) dX4_makeCells_9 ?_
  cases hF
  exact R_ireturn (pc := 10) h rfl rfl rfl dX4_makeCells_10
theorem c4_makeCells_N {ad : Nat → Nat} {z : ZZ} {R : Mem × Int32} {fu : Nat} {x2 : Int32} {x3 : Int32} {x4 : Int32} {M : Mem} (hF : f4_makeCells_N fu x2 x3 x4 M = some R) : Con layC ad z yX4_makeCells cX4_makeCells 5 (some .int) 1 M [.ref (ad 28), .null, .int x2, .int x3, .int x4] (R.1) (some (.int R.2)) := con_of (own := RX4) (lv := [(0, .ref (ad 28)), (1, .null), (2, .int x2), (3, .int x3), (4, .int x4)]) (by decide +kernel) rfl (Nat.le_of_ble_eq_true rfl) rfl (fun X hz h => w4_makeCells_N h hF)
def f0_begin_15 (fu : Nat) : Nat → Nat → Int32 → Int32 → Mem → Option (Mem)
  | 0 => fun _ _ _ _ => none
  | f + 1 => fun px0 x2 x3 M =>
    (gd (decide (px0 < 10))).bind fun _ =>
    if (M.1 px0 0) ≤ x3 then ((some M))
    else ((wr M (px0 + 10) 60 x3 x2).bind fun M3 =>
    nm (x3 + (1 : Int32)) fun v4 =>
    ((f0_begin_15 fu f) px0 x2 v4 M3))
set_option maxHeartbeats 4000000 in
set_option maxRecDepth 10000 in
theorem w0_begini_15 {ad : Nat → Nat} {X : XX} {R : Mem} {fu : Nat}  (h : Cx layC ad X cX0_begin RX0 4 1 none (R) none)  : ∀ (f : Nat) (px0 : Nat) (x2 : Int32) (x3 : Int32) (M : Mem), f0_begin_15 fu f px0 x2 x3 M = some R → Wp layC ad X M 15 [(0, .ref (ad px0)), (2, .int x2), (3, .int x3)] [] := by
  intro f
  induction f with
  | zero => intro px0 x2 x3 M hF; exact absurd hF (by simp [f0_begin_15])
  | succ f ih =>
    intro px0 x2 x3 M hF
    rw [f0_begin_15] at hF
    refine R_iload_n (pc := 15) h 2 rfl rfl dX0_begin_15 ?_
    refine R_aload_n (pc := 16) h 0 rfl rfl dX0_begin_16 ?_
    obtain ⟨_, hg1, hF⟩ := bd hF
    have hg1 := of_decide_eq_true (gd_s hg1)
    refine R_getI (pc := 17) h flX0_9 (lyCells hg1) rfl dX0_begin_17 ?_
    refine R_icmp_ge (pc := 20) (tgt := 36) h dX0_begin_20 (by decide) (fun c2 => ?_) (fun c2 => ?_)
    · have hF := itp c2 hF
      cases hF
      exact R_return (pc := 36) h rfl rfl rfl dX0_begin_36
    · have hF := ifn c2 hF
      refine R_aload_n (pc := 23) h 0 rfl rfl dX0_begin_23 ?_
      refine R_getR (pc := 24) (q1 := px0 + 10) h flX0_15 (lyCells hg1) rfl dX0_begin_24 ?_
      refine R_iload_n (pc := 27) h 2 rfl rfl dX0_begin_27 ?_
      refine R_iload_n (pc := 28) h 1 rfl rfl dX0_begin_28 ?_
      obtain ⟨M3, hM3, hF⟩ := bd hF
      refine R_iast (pc := 29) h hM3 (lyCellsA hg1) dX0_begin_29 ?_
      obtain ⟨v4, hv4, hF⟩ := nm_e2 hF
      refine R_iinc (pc := 30) (lv' := [(3, .int v4), (0, .ref (ad px0)), (2, .int x2)]) h 2 rfl (by decide) hv4 (by decide) rfl dX0_begin_30 ?_
      refine R_goto (pc := 33) (tgt := 15) h dX0_begin_33 (by decide) ?_
      exact Wp_sub (nX := 0) (lv' := [(0, .ref (ad px0)), (2, .int x2), (3, .int v4)]) [1, 2, 0] rfl (ih _ _ _ _ hF)
theorem w0_begin_15 {ad : Nat → Nat} {X : XX} {R : Mem} {fu : Nat}  (h : Cx layC ad X cX0_begin RX0 4 1 none (R) none)  {f : Nat} {px0 : Nat} {x2 : Int32} {x3 : Int32} {M : Mem} (hF : f0_begin_15 fu f px0 x2 x3 M = some R) : Wp layC ad X M 15 [(0, .ref (ad px0)), (2, .int x2), (3, .int x3)] [] := w0_begini_15 h  f _ _ _ _ hF
def f0_begin (fu : Nat) (p0 : Nat) (x1 : Int32) (x2 : Int32) (M : Mem) : Option (Mem) :=
    (gd (decide (p0 < 10))).bind fun _ =>
    nm (sI M p0 0 (if (60 : Int32) < x1 then (60 : Int32) else x1)) fun M2 =>
    (f0_begin_15 fu fu p0 x2 (0 : Int32) M2)
set_option maxHeartbeats 4000000 in
set_option maxRecDepth 10000 in
theorem w0_begin {ad : Nat → Nat} {X : XX} {R : Mem} {fu : Nat} (h : Cx layC ad X cX0_begin RX0 4 1 none (R) none) {p0 : Nat} {x1 : Int32} {x2 : Int32} {M : Mem} (hF : f0_begin fu p0 x1 x2 M = some R) : Wp layC ad X M 0 [(0, .ref (ad p0)), (1, .int x1), (2, .int x2)] [] := by
  unfold f0_begin at hF
  refine R_aload_n (pc := 0) h 0 rfl rfl dX0_begin_0 ?_
  refine R_iload_n (pc := 1) h 1 rfl rfl dX0_begin_1 ?_
  refine R_aload_n (pc := 2) h 0 rfl rfl dX0_begin_2 ?_
  obtain ⟨_, hg1, hF⟩ := bd hF
  have hg1 := of_decide_eq_true (gd_s hg1)
  refine R_getR (pc := 3) (q1 := p0 + 10) h flX0_15 (lyCells hg1) rfl dX0_begin_3 ?_
  refine R_alen (pc := 6) (v := 60) h (by decide) (by decide) (lyCellsA hg1) dX0_begin_6 ?_
  refine R_mmin (pc := 7) h mlX0_19 (by decide) (Nat.le_of_ble_eq_true rfl) dX0_begin_7 ?_
  obtain ⟨M2, hM2, hF⟩ := nm_e2 hF
  refine R_putI (pc := 10) h hM2 fpX0_9 (lyCells hg1) rfl dX0_begin_10 ?_
  refine R_iconst (pc := 13) (v := 0) h (by decide) dX0_begin_13 ?_
  refine R_istore_n (pc := 14) (lv' := [(3, .int (0 : Int32)), (0, .ref (ad p0)), (1, .int x1), (2, .int x2)]) h rfl rfl (by decide) rfl dX0_begin_14 ?_
  exact Wp_sub (nX := 0) (lv' := [(0, .ref (ad p0)), (2, .int x2), (3, .int (0 : Int32))]) [1, 3, 0] rfl (w0_begin_15 h  (hF := hF))
theorem c0_begin {ad : Nat → Nat} {z : ZZ} {R : Mem} {fu : Nat} {p0 : Nat} {x1 : Int32} {x2 : Int32} {M : Mem} (hF : f0_begin fu p0 x1 x2 M = some R) : Con layC ad z yX0_begin cX0_begin 4 none 1 M [.ref (ad p0), .int x1, .int x2] (R) none := con_of (own := RX0) (lv := [(0, .ref (ad p0)), (1, .int x1), (2, .int x2)]) (by decide +kernel) rfl (Nat.le_of_ble_eq_true rfl) rfl (fun X hz h => w0_begin h hF)
def f4_find (x1 : Int32) (M : Mem) : Option (Mem × Int32) :=
    nm (sI M 28 5 x1) fun M1 =>
    if x1 < (1 : Int32) then ((some (M1, (-3 : Int32))))
    else (if (5 : Int32) < x1 then ((some (M1, (-3 : Int32))))
    else ((rd M1 32 6 x1).bind fun v4 =>
    (wr M1 32 6 x1 (v4 + (1 : Int32))).bind fun M5 =>
    (some (M5, (-3 : Int32)))))
set_option maxHeartbeats 4000000 in
set_option maxRecDepth 10000 in
theorem w4_find {ad : Nat → Nat} {X : XX} {R : Mem × Int32} (h : Cx layC ad X cX4_find RX4 2 1 (some .int) (R.1) (some (.int R.2))) {x1 : Int32} {M : Mem} (hF : f4_find x1 M = some R) : Wp layC ad X M 0 [(0, .ref (ad 28)), (1, .int x1)] [] := by
  unfold f4_find at hF
  refine R_aload_n (pc := 0) h 0 rfl rfl dX4_find_0 ?_
  refine R_iload_n (pc := 1) h 1 rfl rfl dX4_find_1 ?_
  obtain ⟨M1, hM1, hF⟩ := nm_e2 hF
  refine R_putI (pc := 2) h hM1 fpX4_35 lc_28 rfl dX4_find_2 ?_
  refine R_iload_n (pc := 5) h 1 rfl rfl dX4_find_5 ?_
  refine R_iconst (pc := 6) (v := 1) h (by decide) dX4_find_6 ?_
  refine R_icmp_lt (pc := 7) (tgt := 25) h dX4_find_7 (by decide) (fun c2 => ?_) (fun c2 => ?_)
  · have hF := itp c2 hF
    refine R_bipush (pc := 25) (v := (-3)) h (by decide) dX4_find_25 ?_
    cases hF
    exact R_ireturn (pc := 27) h rfl rfl rfl dX4_find_27
  · have hF := ifn c2 hF
    refine R_iload_n (pc := 10) h 1 rfl rfl dX4_find_10 ?_
    refine R_iconst (pc := 11) (v := 5) h (by decide) dX4_find_11 ?_
    refine R_icmp_gt (pc := 12) (tgt := 25) h dX4_find_12 (by decide) (fun c3 => ?_) (fun c3 => ?_)
    · have hF := itp c3 hF
      refine R_bipush (pc := 25) (v := (-3)) h (by decide) dX4_find_25 ?_
      cases hF
      exact R_ireturn (pc := 27) h rfl rfl rfl dX4_find_27
    · have hF := ifn c3 hF
      refine R_aload_n (pc := 15) h 0 rfl rfl dX4_find_15 ?_
      refine R_getR (pc := 16) (q1 := 32) h flX4_31 lc_28 rfl dX4_find_16 ?_
      refine R_iload_n (pc := 19) h 1 rfl rfl dX4_find_19 ?_
      refine R_dup2 (pc := 20) h rfl rfl dX4_find_20 ?_
      obtain ⟨v4, hv4, hF⟩ := bd hF
      refine R_iald (pc := 21) h hv4 lc_32 dX4_find_21 ?_
      refine R_iconst (pc := 22) (v := 1) h (by decide) dX4_find_22 ?_
      refine R_iadd (pc := 23) h dX4_find_23 ?_
      obtain ⟨M5, hM5, hF⟩ := bd hF
      refine R_iast (pc := 24) h hM5 lc_32 dX4_find_24 ?_
      refine R_bipush (pc := 25) (v := (-3)) h (by decide) dX4_find_25 ?_
      cases hF
      exact R_ireturn (pc := 27) h rfl rfl rfl dX4_find_27
theorem c4_find {ad : Nat → Nat} {z : ZZ} {R : Mem × Int32} {x1 : Int32} {M : Mem} (hF : f4_find x1 M = some R) : Con layC ad z yX4_find cX4_find 2 (some .int) 1 M [.ref (ad 28), .int x1] (R.1) (some (.int R.2)) := con_of (own := RX4) (lv := [(0, .ref (ad 28)), (1, .int x1)]) (by decide +kernel) rfl (Nat.le_of_ble_eq_true rfl) rfl (fun X hz h => w4_find h hF)
def f4_makeCells (fu : Nat) (p1 : Nat) (x2 : Int32) (x3 : Int32) (x4 : Int32) (M : Mem) : Option (Mem × Int32) :=
    if x2 ≤ x3 then (if 0 ≤ x2 then ((gd (decide (p1 < 10))).bind fun _ =>
    (f0_begin fu p1 x2 x4 M).bind fun M5 =>
    (some (M5, x2)))
    else ((f4_find (5 : Int32) M).bind fun ⟨M7, r8⟩ =>
    (some (M7, r8))))
    else ((some (M, (-1 : Int32))))
set_option maxHeartbeats 4000000 in
set_option maxRecDepth 10000 in
theorem w4_makeCells {ad : Nat → Nat} {X : XX} {R : Mem × Int32} {fu : Nat} (h : Cx layC ad X cX4_makeCells RX4 5 2 (some .int) (R.1) (some (.int R.2))) {p1 : Nat} {x2 : Int32} {x3 : Int32} {x4 : Int32} {M : Mem} (hF : f4_makeCells fu p1 x2 x3 x4 M = some R) : Wp layC ad X M 0 [(0, .ref (ad 28)), (1, .ref (ad p1)), (2, .int x2), (3, .int x3), (4, .int x4)] [] := by
  unfold f4_makeCells at hF
  refine R_aload_n (pc := 0) h 1 rfl rfl dX4_makeCells_0 ?_
  refine R_ifnull (pc := 1) h dX4_makeCells_1 ?_
  refine R_iload_n (pc := 4) h 2 rfl rfl dX4_makeCells_4 ?_
  refine R_iload_n (pc := 5) h 3 rfl rfl dX4_makeCells_5 ?_
  refine R_icmp_le (pc := 6) (tgt := 11) h dX4_makeCells_6 (by decide) (fun c1 => ?_) (fun c1 => ?_)
  · have hF := itp c1 hF
    refine R_iload_n (pc := 11) h 2 rfl rfl dX4_makeCells_11 ?_
    refine R_if_ge (pc := 12) (tgt := 21) h dX4_makeCells_12 (by decide) (fun c2 => ?_) (fun c2 => ?_)
    · have hF := itp c2 hF
      refine R_aload_n (pc := 21) h 1 rfl rfl dX4_makeCells_21 ?_
      refine R_iload_n (pc := 22) h 2 rfl rfl dX4_makeCells_22 ?_
      refine R_iload (pc := 23) h 4 rfl dX4_makeCells_23 ?_
      obtain ⟨_, hg3, hF⟩ := bd hF
      have hg3 := of_decide_eq_true (gd_s hg3)
      obtain ⟨M5, hc4, hF⟩ := bd hF
      refine R_callV (pc := 25) (st := []) h [.int x2, .int x4] cvX4_287 (c0_begin (ad := ad) (z := X.1) hc4) rfl rfl (lyCells hg3) (by decide) (by decide) (Nat.le_of_ble_eq_true rfl) dX4_makeCells_25 (st1 := []) rfl ?_
      refine R_iload_n (pc := 28) h 2 rfl rfl dX4_makeCells_28 ?_
      cases hF
      exact R_ireturn (pc := 29) h rfl rfl rfl dX4_makeCells_29
    · have hF := ifn c2 hF
      refine R_aload_n (pc := 15) h 0 rfl rfl dX4_makeCells_15 ?_
      refine R_iconst (pc := 16) (v := 5) h (by decide) dX4_makeCells_16 ?_
      obtain ⟨⟨M7, r8⟩, hc6, hF⟩ := bd hF
      refine R_callV (pc := 17) (st := []) h [.int (5 : Int32)] cvX4_78 (c4_find (ad := ad) (z := X.1) hc6) rfl rfl lc_28 (by decide) (by decide) (Nat.le_of_ble_eq_true rfl) dX4_makeCells_17 (st1 := [.int r8]) rfl ?_
      cases hF
      exact R_ireturn (pc := 20) h rfl rfl rfl dX4_makeCells_20
  · have hF := ifn c1 hF
    refine R_iconst (pc := 9) (v := (-1)) h (by decide) dX4_makeCells_9 ?_
    cases hF
    exact R_ireturn (pc := 10) h rfl rfl rfl dX4_makeCells_10
theorem c4_makeCells {ad : Nat → Nat} {z : ZZ} {R : Mem × Int32} {fu : Nat} {p1 : Nat} {x2 : Int32} {x3 : Int32} {x4 : Int32} {M : Mem} (hF : f4_makeCells fu p1 x2 x3 x4 M = some R) : Con layC ad z yX4_makeCells cX4_makeCells 5 (some .int) 2 M [.ref (ad 28), .ref (ad p1), .int x2, .int x3, .int x4] (R.1) (some (.int R.2)) := con_of (own := RX4) (lv := [(0, .ref (ad 28)), (1, .ref (ad p1)), (2, .int x2), (3, .int x3), (4, .int x4)]) (by decide +kernel) rfl (Nat.le_of_ble_eq_true rfl) rfl (fun X hz h => w4_makeCells h hF)
def f4_row (fu : Nat) (x1 : Int32) (x2 : Int32) (M : Mem) : Option (Mem × Int32) :=
    (f4_rowAt x1).bind fun r2 =>
    oc r2 ((f4_makeCells_N fu x2 (40 : Int32) (0 : Int32) M).bind fun ⟨M5, r6⟩ =>
    (some (M5, r6)))
    fun q3 => (f4_makeCells fu q3 x2 (40 : Int32) (0 : Int32) M).bind fun ⟨M8, r9⟩ =>
    (some (M8, r9))
set_option maxHeartbeats 4000000 in
set_option maxRecDepth 10000 in
theorem w4_row {ad : Nat → Nat} {X : XX} {R : Mem × Int32} {fu : Nat} (h : Cx layC ad X cX4_row RX4 3 3 (some .int) (R.1) (some (.int R.2))) {x1 : Int32} {x2 : Int32} {M : Mem} (hF : f4_row fu x1 x2 M = some R) : Wp layC ad X M 0 [(0, .ref (ad 28)), (1, .int x1), (2, .int x2)] [] := by
  unfold f4_row at hF
  refine R_aload_n (pc := 0) h 0 rfl rfl dX4_row_0 ?_
  refine R_aload_n (pc := 1) h 0 rfl rfl dX4_row_1 ?_
  refine R_iload_n (pc := 2) h 1 rfl rfl dX4_row_2 ?_
  obtain ⟨r2, hc1, hF⟩ := bd hF
  rcases r2 with _ | q3
  · have hF := oc_n hF
    refine R_callV (pc := 3) (st := [.ref (ad 28)]) h [.int x1] cvX4_51 (c4_rowAt (ad := ad) (z := X.1) (M := M) hc1) rfl rfl lc_28 (by decide) (by decide) (Nat.le_of_ble_eq_true rfl) dX4_row_3 (st1 := [.null, .ref (ad 28)]) rfl ?_
    refine R_iload_n (pc := 6) h 2 rfl rfl dX4_row_6 ?_
    refine R_bipush (pc := 7) (v := 40) h (by decide) dX4_row_7 ?_
    refine R_iconst (pc := 9) (v := 0) h (by decide) dX4_row_9 ?_
    obtain ⟨⟨M5, r6⟩, hc4, hF⟩ := bd hF
    refine R_callV (pc := 10) (st := []) h [.null, .int x2, .int (40 : Int32), .int (0 : Int32)] cvX4_55 (c4_makeCells_N (ad := ad) (z := X.1) hc4) rfl rfl lc_28 (by decide) (by decide) (Nat.le_of_ble_eq_true rfl) dX4_row_10 (st1 := [.int r6]) rfl ?_
    cases hF
    exact R_ireturn (pc := 13) h rfl rfl rfl dX4_row_13
  · have hF := oc_s hF
    refine R_callV (pc := 3) (st := [.ref (ad 28)]) h [.int x1] cvX4_51 (c4_rowAt (ad := ad) (z := X.1) (M := M) hc1) rfl rfl lc_28 (by decide) (by decide) (Nat.le_of_ble_eq_true rfl) dX4_row_3 (st1 := [.ref (ad q3), .ref (ad 28)]) rfl ?_
    refine R_iload_n (pc := 6) h 2 rfl rfl dX4_row_6 ?_
    refine R_bipush (pc := 7) (v := 40) h (by decide) dX4_row_7 ?_
    refine R_iconst (pc := 9) (v := 0) h (by decide) dX4_row_9 ?_
    obtain ⟨⟨M8, r9⟩, hc7, hF⟩ := bd hF
    refine R_callV (pc := 10) (st := []) h [.ref (ad q3), .int x2, .int (40 : Int32), .int (0 : Int32)] cvX4_55 (c4_makeCells (ad := ad) (z := X.1) hc7) rfl rfl lc_28 (by decide) (by decide) (Nat.le_of_ble_eq_true rfl) dX4_row_10 (st1 := [.int r9]) rfl ?_
    cases hF
    exact R_ireturn (pc := 13) h rfl rfl rfl dX4_row_13
theorem c4_row {ad : Nat → Nat} {z : ZZ} {R : Mem × Int32} {fu : Nat} {x1 : Int32} {x2 : Int32} {M : Mem} (hF : f4_row fu x1 x2 M = some R) : Con layC ad z yX4_row cX4_row 3 (some .int) 3 M [.ref (ad 28), .int x1, .int x2] (R.1) (some (.int R.2)) := con_of (own := RX4) (lv := [(0, .ref (ad 28)), (1, .int x1), (2, .int x2)]) (by decide +kernel) rfl (Nat.le_of_ble_eq_true rfl) rfl (fun X hz h => w4_row h hF)
def f4_refuseMissing_N (M : Mem) : Option (Mem × Int32) :=
    (some (M, (-1 : Int32)))
set_option maxHeartbeats 4000000 in
set_option maxRecDepth 10000 in
theorem w4_refuseMissing_N {ad : Nat → Nat} {X : XX} {R : Mem × Int32} (h : Cx layC ad X cX4_refuseMissing RX4 2 1 (some .int) (R.1) (some (.int R.2))) {M : Mem} (hF : f4_refuseMissing_N M = some R) : Wp layC ad X M 0 [(0, .ref (ad 28)), (1, .null)] [] := by
  unfold f4_refuseMissing_N at hF
  refine R_aload_nN (pc := 0) h 1 rfl rfl dX4_refuseMissing_0 ?_
  refine R_ifnonnullN (pc := 1) h dX4_refuseMissing_1 ?_
  refine R_iconst (pc := 4) (v := (-1)) h (by decide) dX4_refuseMissing_4 ?_
  cases hF
  exact R_ireturn (pc := 5) h rfl rfl rfl dX4_refuseMissing_5
theorem c4_refuseMissing_N {ad : Nat → Nat} {z : ZZ} {R : Mem × Int32} {M : Mem} (hF : f4_refuseMissing_N M = some R) : Con layC ad z yX4_refuseMissing cX4_refuseMissing 2 (some .int) 1 M [.ref (ad 28), .null] (R.1) (some (.int R.2)) := con_of (own := RX4) (lv := [(0, .ref (ad 28)), (1, .null)]) (by decide +kernel) rfl (Nat.le_of_ble_eq_true rfl) rfl (fun X hz h => w4_refuseMissing_N h hF)
def f4_refusePlace_N (x2 : Int32) (M : Mem) : Option (Mem × Int32) :=
    (f4_refuseMissing_N M).bind fun ⟨M2, r3⟩ =>
    (some (M2, r3))
set_option maxHeartbeats 4000000 in
set_option maxRecDepth 10000 in
theorem w4_refusePlace_N {ad : Nat → Nat} {X : XX} {R : Mem × Int32} (h : Cx layC ad X cX4_refusePlace RX4 4 2 (some .int) (R.1) (some (.int R.2))) {x2 : Int32} {M : Mem} (hF : f4_refusePlace_N x2 M = some R) : Wp layC ad X M 0 [(0, .ref (ad 28)), (1, .null), (2, .int x2)] [] := by
  unfold f4_refusePlace_N at hF
  refine R_aload_n (pc := 0) h 0 rfl rfl dX4_refusePlace_0 ?_
  refine R_aload_nN (pc := 1) h 1 rfl rfl dX4_refusePlace_1 ?_
  obtain ⟨⟨M2, r3⟩, hc1, hF⟩ := bd hF
  refine R_callV (pc := 2) (st := []) h [.null] cvX4_71 (c4_refuseMissing_N (ad := ad) (z := X.1) hc1) rfl rfl lc_28 (by decide) (by decide) (Nat.le_of_ble_eq_true rfl) dX4_refusePlace_2 (st1 := [.int r3]) rfl ?_
  refine R_istore_n (pc := 5) (lv' := [(3, .int r3), (0, .ref (ad 28)), (1, .null), (2, .int x2)]) h rfl rfl (by decide) rfl dX4_refusePlace_5 ?_
  refine R_aload_nN (pc := 6) h 2 rfl rfl dX4_refusePlace_6 ?_
  refine R_ifnullN (pc := 7) (tgt := 14) h dX4_refusePlace_7 (by decide) ?_
  refine R_iload_n (pc := 14) h 0 rfl rfl dX4_refusePlace_14 ?_
  cases hF
  exact R_ireturn (pc := 15) h rfl rfl rfl dX4_refusePlace_15
theorem c4_refusePlace_N {ad : Nat → Nat} {z : ZZ} {R : Mem × Int32} {x2 : Int32} {M : Mem} (hF : f4_refusePlace_N x2 M = some R) : Con layC ad z yX4_refusePlace cX4_refusePlace 4 (some .int) 2 M [.ref (ad 28), .null, .int x2] (R.1) (some (.int R.2)) := con_of (own := RX4) (lv := [(0, .ref (ad 28)), (1, .null), (2, .int x2)]) (by decide +kernel) rfl (Nat.le_of_ble_eq_true rfl) rfl (fun X hz h => w4_refusePlace_N h hF)
def f0_isMissing (M : Mem) (p0 : Nat) : Option (Int32) :=
    (gd (decide (p0 < 10))).bind fun _ =>
    if 0 ≤ (M.1 p0 0) then ((some (0 : Int32)))
    else ((some (1 : Int32)))
set_option maxHeartbeats 4000000 in
set_option maxRecDepth 10000 in
theorem w0_isMissing {ad : Nat → Nat} {X : XX} {R : Int32} {M : Mem} (h : Cx layC ad X cX0_isMissing RX0 1 1 (some .boolean) M (some (.int R))) {p0 : Nat} (hF : f0_isMissing M p0 = some R) : Wp layC ad X M 0 [(0, .ref (ad p0))] [] := by
  unfold f0_isMissing at hF
  refine R_aload_n (pc := 0) h 0 rfl rfl dX0_isMissing_0 ?_
  obtain ⟨_, hg1, hF⟩ := bd hF
  have hg1 := of_decide_eq_true (gd_s hg1)
  refine R_getI (pc := 1) h flX0_9 (lyCells hg1) rfl dX0_isMissing_1 ?_
  refine R_if_ge (pc := 4) (tgt := 11) h dX0_isMissing_4 (by decide) (fun c2 => ?_) (fun c2 => ?_)
  · have hF := itp c2 hF
    refine R_iconst (pc := 11) (v := 0) h (by decide) dX0_isMissing_11 ?_
    cases hF
    exact R_zreturn (pc := 12) h rfl zr0 rfl rfl dX0_isMissing_12
  · have hF := ifn c2 hF
    refine R_iconst (pc := 7) (v := 1) h (by decide) dX0_isMissing_7 ?_
    refine R_goto (pc := 8) (tgt := 12) h dX0_isMissing_8 (by decide) ?_
    cases hF
    exact R_zreturn (pc := 12) h rfl zr1 rfl rfl dX0_isMissing_12
theorem c0_isMissing {ad : Nat → Nat} {z : ZZ} {R : Int32} {M : Mem} {p0 : Nat} (hF : f0_isMissing M p0 = some R) : Con layC ad z yX0_isMissing cX0_isMissing 1 (some .boolean) 1 M [.ref (ad p0)] (M) (some (.int R)) := con_of (own := RX0) (lv := [(0, .ref (ad p0))]) (by decide +kernel) rfl (Nat.le_of_ble_eq_true rfl) rfl (fun X hz h => w0_isMissing h hF)
def f4_refuseMissing (p1 : Nat) (M : Mem) : Option (Mem × Int32) :=
    (gd (decide (p1 < 10))).bind fun _ =>
    (f0_isMissing M p1).bind fun r3 =>
    if r3 = 0 then ((some (M, (0 : Int32))))
    else ((f4_find (1 : Int32) M).bind fun ⟨M6, r7⟩ =>
    (some (M6, r7)))
set_option maxHeartbeats 4000000 in
set_option maxRecDepth 10000 in
theorem w4_refuseMissing {ad : Nat → Nat} {X : XX} {R : Mem × Int32} (h : Cx layC ad X cX4_refuseMissing RX4 2 2 (some .int) (R.1) (some (.int R.2))) {p1 : Nat} {M : Mem} (hF : f4_refuseMissing p1 M = some R) : Wp layC ad X M 0 [(0, .ref (ad 28)), (1, .ref (ad p1))] [] := by
  unfold f4_refuseMissing at hF
  refine R_aload_n (pc := 0) h 1 rfl rfl dX4_refuseMissing_0 ?_
  refine R_ifnonnull (pc := 1) (tgt := 6) h dX4_refuseMissing_1 (by decide) ?_
  refine R_aload_n (pc := 6) h 1 rfl rfl dX4_refuseMissing_6 ?_
  obtain ⟨_, hg1, hF⟩ := bd hF
  have hg1 := of_decide_eq_true (gd_s hg1)
  obtain ⟨r3, hc2, hF⟩ := bd hF
  refine R_callV (pc := 7) (st := []) h [] cvX4_81 (c0_isMissing (ad := ad) (z := X.1) hc2) rfl rfl (lyCells hg1) (by decide) (by decide) (Nat.le_of_ble_eq_true rfl) dX4_refuseMissing_7 (st1 := [.int r3]) rfl ?_
  refine R_if_eq (pc := 10) (tgt := 21) h dX4_refuseMissing_10 (by decide) (fun c4 => ?_) (fun c4 => ?_)
  · have hF := itp c4 hF
    refine R_iconst (pc := 21) (v := 0) h (by decide) dX4_refuseMissing_21 ?_
    cases hF
    exact R_ireturn (pc := 22) h rfl rfl rfl dX4_refuseMissing_22
  · have hF := ifn c4 hF
    refine R_aload_n (pc := 13) h 0 rfl rfl dX4_refuseMissing_13 ?_
    refine R_iconst (pc := 14) (v := 1) h (by decide) dX4_refuseMissing_14 ?_
    obtain ⟨⟨M6, r7⟩, hc5, hF⟩ := bd hF
    refine R_callV (pc := 15) (st := []) h [.int (1 : Int32)] cvX4_78 (c4_find (ad := ad) (z := X.1) hc5) rfl rfl lc_28 (by decide) (by decide) (Nat.le_of_ble_eq_true rfl) dX4_refuseMissing_15 (st1 := [.int r7]) rfl ?_
    refine R_goto (pc := 18) (tgt := 22) h dX4_refuseMissing_18 (by decide) ?_
    cases hF
    exact R_ireturn (pc := 22) h rfl rfl rfl dX4_refuseMissing_22
theorem c4_refuseMissing {ad : Nat → Nat} {z : ZZ} {R : Mem × Int32} {p1 : Nat} {M : Mem} (hF : f4_refuseMissing p1 M = some R) : Con layC ad z yX4_refuseMissing cX4_refuseMissing 2 (some .int) 2 M [.ref (ad 28), .ref (ad p1)] (R.1) (some (.int R.2)) := con_of (own := RX4) (lv := [(0, .ref (ad 28)), (1, .ref (ad p1))]) (by decide +kernel) rfl (Nat.le_of_ble_eq_true rfl) rfl (fun X hz h => w4_refuseMissing h hF)
def f0_hasCell (M : Mem) (p0 : Nat) (x1 : Int32) : Option (Int32) :=
    if x1 < 0 then ((some (0 : Int32)))
    else ((gd (decide (p0 < 10))).bind fun _ =>
    if (M.1 p0 0) ≤ x1 then ((some (0 : Int32)))
    else ((some (1 : Int32))))
set_option maxHeartbeats 4000000 in
set_option maxRecDepth 10000 in
theorem w0_hasCell {ad : Nat → Nat} {X : XX} {R : Int32} {M : Mem} (h : Cx layC ad X cX0_hasCell RX0 2 1 (some .boolean) M (some (.int R))) {p0 : Nat} {x1 : Int32} (hF : f0_hasCell M p0 x1 = some R) : Wp layC ad X M 0 [(0, .ref (ad p0)), (1, .int x1)] [] := by
  unfold f0_hasCell at hF
  refine R_iload_n (pc := 0) h 1 rfl rfl dX0_hasCell_0 ?_
  refine R_if_lt (pc := 1) (tgt := 16) h dX0_hasCell_1 (by decide) (fun c1 => ?_) (fun c1 => ?_)
  · have hF := itp c1 hF
    refine R_iconst (pc := 16) (v := 0) h (by decide) dX0_hasCell_16 ?_
    cases hF
    exact R_zreturn (pc := 17) h rfl zr0 rfl rfl dX0_hasCell_17
  · have hF := ifn c1 hF
    refine R_iload_n (pc := 4) h 1 rfl rfl dX0_hasCell_4 ?_
    refine R_aload_n (pc := 5) h 0 rfl rfl dX0_hasCell_5 ?_
    obtain ⟨_, hg2, hF⟩ := bd hF
    have hg2 := of_decide_eq_true (gd_s hg2)
    refine R_getI (pc := 6) h flX0_9 (lyCells hg2) rfl dX0_hasCell_6 ?_
    refine R_icmp_ge (pc := 9) (tgt := 16) h dX0_hasCell_9 (by decide) (fun c3 => ?_) (fun c3 => ?_)
    · have hF := itp c3 hF
      refine R_iconst (pc := 16) (v := 0) h (by decide) dX0_hasCell_16 ?_
      cases hF
      exact R_zreturn (pc := 17) h rfl zr0 rfl rfl dX0_hasCell_17
    · have hF := ifn c3 hF
      refine R_iconst (pc := 12) (v := 1) h (by decide) dX0_hasCell_12 ?_
      refine R_goto (pc := 13) (tgt := 17) h dX0_hasCell_13 (by decide) ?_
      cases hF
      exact R_zreturn (pc := 17) h rfl zr1 rfl rfl dX0_hasCell_17
theorem c0_hasCell {ad : Nat → Nat} {z : ZZ} {R : Int32} {M : Mem} {p0 : Nat} {x1 : Int32} (hF : f0_hasCell M p0 x1 = some R) : Con layC ad z yX0_hasCell cX0_hasCell 2 (some .boolean) 1 M [.ref (ad p0), .int x1] (M) (some (.int R)) := con_of (own := RX0) (lv := [(0, .ref (ad p0)), (1, .int x1)]) (by decide +kernel) rfl (Nat.le_of_ble_eq_true rfl) rfl (fun X hz h => w0_hasCell h hF)
def f4_refusePlace (p1 : Nat) (x2 : Int32) (M : Mem) : Option (Mem × Int32) :=
    (f4_refuseMissing p1 M).bind fun ⟨M2, r3⟩ =>
    if r3 = 0 then ((gd (decide (p1 < 10))).bind fun _ =>
    (f0_hasCell M2 p1 x2).bind fun r7 =>
    if r7 = 0 then ((f4_find (2 : Int32) M2).bind fun ⟨M10, r11⟩ =>
    (some (M10, r11)))
    else ((some (M2, (0 : Int32)))))
    else ((some (M2, r3)))
set_option maxHeartbeats 4000000 in
set_option maxRecDepth 10000 in
theorem w4_refusePlace {ad : Nat → Nat} {X : XX} {R : Mem × Int32} (h : Cx layC ad X cX4_refusePlace RX4 4 3 (some .int) (R.1) (some (.int R.2))) {p1 : Nat} {x2 : Int32} {M : Mem} (hF : f4_refusePlace p1 x2 M = some R) : Wp layC ad X M 0 [(0, .ref (ad 28)), (1, .ref (ad p1)), (2, .int x2)] [] := by
  unfold f4_refusePlace at hF
  refine R_aload_n (pc := 0) h 0 rfl rfl dX4_refusePlace_0 ?_
  refine R_aload_n (pc := 1) h 1 rfl rfl dX4_refusePlace_1 ?_
  obtain ⟨⟨M2, r3⟩, hc1, hF⟩ := bd hF
  refine R_callV (pc := 2) (st := []) h [.ref (ad p1)] cvX4_71 (c4_refuseMissing (ad := ad) (z := X.1) hc1) rfl rfl lc_28 (by decide) (by decide) (Nat.le_of_ble_eq_true rfl) dX4_refusePlace_2 (st1 := [.int r3]) rfl ?_
  refine R_istore_n (pc := 5) (lv' := [(3, .int r3), (0, .ref (ad 28)), (1, .ref (ad p1)), (2, .int x2)]) h rfl rfl (by decide) rfl dX4_refusePlace_5 ?_
  refine R_aload_n (pc := 6) h 2 rfl rfl dX4_refusePlace_6 ?_
  refine R_ifnull (pc := 7) h dX4_refusePlace_7 ?_
  refine R_iload_n (pc := 10) h 0 rfl rfl dX4_refusePlace_10 ?_
  refine R_if_eq (pc := 11) (tgt := 16) h dX4_refusePlace_11 (by decide) (fun c4 => ?_) (fun c4 => ?_)
  · have hF := itp c4 hF
    refine R_aload_n (pc := 16) h 2 rfl rfl dX4_refusePlace_16 ?_
    refine R_iload_n (pc := 17) h 3 rfl rfl dX4_refusePlace_17 ?_
    obtain ⟨_, hg5, hF⟩ := bd hF
    have hg5 := of_decide_eq_true (gd_s hg5)
    obtain ⟨r7, hc6, hF⟩ := bd hF
    refine R_callV (pc := 18) (st := []) h [.int x2] cvX4_290 (c0_hasCell (ad := ad) (z := X.1) hc6) rfl rfl (lyCells hg5) (by decide) (by decide) (Nat.le_of_ble_eq_true rfl) dX4_refusePlace_18 (st1 := [.int r7]) rfl ?_
    refine R_if_eq (pc := 21) (tgt := 28) h dX4_refusePlace_21 (by decide) (fun c8 => ?_) (fun c8 => ?_)
    · have hF := itp c8 hF
      refine R_aload_n (pc := 28) h 1 rfl rfl dX4_refusePlace_28 ?_
      refine R_iconst (pc := 29) (v := 2) h (by decide) dX4_refusePlace_29 ?_
      obtain ⟨⟨M10, r11⟩, hc9, hF⟩ := bd hF
      refine R_callV (pc := 30) (st := []) h [.int (2 : Int32)] cvX4_78 (c4_find (ad := ad) (z := X.1) hc9) rfl rfl lc_28 (by decide) (by decide) (Nat.le_of_ble_eq_true rfl) dX4_refusePlace_30 (st1 := [.int r11]) rfl ?_
      cases hF
      exact R_ireturn (pc := 33) h rfl rfl rfl dX4_refusePlace_33
    · have hF := ifn c8 hF
      refine R_iconst (pc := 24) (v := 0) h (by decide) dX4_refusePlace_24 ?_
      refine R_goto (pc := 25) (tgt := 33) h dX4_refusePlace_25 (by decide) ?_
      cases hF
      exact R_ireturn (pc := 33) h rfl rfl rfl dX4_refusePlace_33
  · have hF := ifn c4 hF
    refine R_iload_n (pc := 14) h 0 rfl rfl dX4_refusePlace_14 ?_
    cases hF
    exact R_ireturn (pc := 15) h rfl rfl rfl dX4_refusePlace_15
theorem c4_refusePlace {ad : Nat → Nat} {z : ZZ} {R : Mem × Int32} {p1 : Nat} {x2 : Int32} {M : Mem} (hF : f4_refusePlace p1 x2 M = some R) : Con layC ad z yX4_refusePlace cX4_refusePlace 4 (some .int) 3 M [.ref (ad 28), .ref (ad p1), .int x2] (R.1) (some (.int R.2)) := con_of (own := RX4) (lv := [(0, .ref (ad 28)), (1, .ref (ad p1)), (2, .int x2)]) (by decide +kernel) rfl (Nat.le_of_ble_eq_true rfl) rfl (fun X hz h => w4_refusePlace h hF)
def f0_cellAt (M : Mem) (p0 : Nat) (x1 : Int32) : Option (Int32) :=
    if x1 < 0 then ((some (0 : Int32)))
    else ((gd (decide (p0 < 10))).bind fun _ =>
    if (60 : Int32) ≤ x1 then ((some (0 : Int32)))
    else ((rd M (p0 + 10) 60 x1).bind fun v4 =>
    (some v4)))
set_option maxHeartbeats 4000000 in
set_option maxRecDepth 10000 in
theorem w0_cellAt {ad : Nat → Nat} {X : XX} {R : Int32} {M : Mem} (h : Cx layC ad X cX0_cellAt RX0 2 1 (some .int) M (some (.int R))) {p0 : Nat} {x1 : Int32} (hF : f0_cellAt M p0 x1 = some R) : Wp layC ad X M 0 [(0, .ref (ad p0)), (1, .int x1)] [] := by
  unfold f0_cellAt at hF
  refine R_iload_n (pc := 0) h 1 rfl rfl dX0_cellAt_0 ?_
  refine R_if_lt (pc := 1) (tgt := 22) h dX0_cellAt_1 (by decide) (fun c1 => ?_) (fun c1 => ?_)
  · have hF := itp c1 hF
    refine R_iconst (pc := 22) (v := 0) h (by decide) dX0_cellAt_22 ?_
    cases hF
    exact R_ireturn (pc := 23) h rfl rfl rfl dX0_cellAt_23
  · have hF := ifn c1 hF
    refine R_iload_n (pc := 4) h 1 rfl rfl dX0_cellAt_4 ?_
    refine R_aload_n (pc := 5) h 0 rfl rfl dX0_cellAt_5 ?_
    obtain ⟨_, hg2, hF⟩ := bd hF
    have hg2 := of_decide_eq_true (gd_s hg2)
    refine R_getR (pc := 6) (q1 := p0 + 10) h flX0_15 (lyCells hg2) rfl dX0_cellAt_6 ?_
    refine R_alen (pc := 9) (v := 60) h (by decide) (by decide) (lyCellsA hg2) dX0_cellAt_9 ?_
    refine R_icmp_ge (pc := 10) (tgt := 22) h dX0_cellAt_10 (by decide) (fun c3 => ?_) (fun c3 => ?_)
    · have hF := itp c3 hF
      refine R_iconst (pc := 22) (v := 0) h (by decide) dX0_cellAt_22 ?_
      cases hF
      exact R_ireturn (pc := 23) h rfl rfl rfl dX0_cellAt_23
    · have hF := ifn c3 hF
      refine R_aload_n (pc := 13) h 0 rfl rfl dX0_cellAt_13 ?_
      refine R_getR (pc := 14) (q1 := p0 + 10) h flX0_15 (lyCells hg2) rfl dX0_cellAt_14 ?_
      refine R_iload_n (pc := 17) h 1 rfl rfl dX0_cellAt_17 ?_
      obtain ⟨v4, hv4, hF⟩ := bd hF
      refine R_iald (pc := 18) h hv4 (lyCellsA hg2) dX0_cellAt_18 ?_
      refine R_goto (pc := 19) (tgt := 23) h dX0_cellAt_19 (by decide) ?_
      cases hF
      exact R_ireturn (pc := 23) h rfl rfl rfl dX0_cellAt_23
theorem c0_cellAt {ad : Nat → Nat} {z : ZZ} {R : Int32} {M : Mem} {p0 : Nat} {x1 : Int32} (hF : f0_cellAt M p0 x1 = some R) : Con layC ad z yX0_cellAt cX0_cellAt 2 (some .int) 1 M [.ref (ad p0), .int x1] (M) (some (.int R)) := con_of (own := RX0) (lv := [(0, .ref (ad p0)), (1, .int x1)]) (by decide +kernel) rfl (Nat.le_of_ble_eq_true rfl) rfl (fun X hz h => w0_cellAt h hF)
def f0_setCell (p0 : Nat) (x1 : Int32) (x2 : Int32) (M : Mem) : Option (Mem) :=
    if x1 < 0 then ((some M))
    else ((gd (decide (p0 < 10))).bind fun _ =>
    if (60 : Int32) ≤ x1 then ((some M))
    else ((wr M (p0 + 10) 60 x1 x2).bind fun M4 =>
    (some M4)))
set_option maxHeartbeats 4000000 in
set_option maxRecDepth 10000 in
theorem w0_setCell {ad : Nat → Nat} {X : XX} {R : Mem} (h : Cx layC ad X cX0_setCell RX0 3 1 none (R) none) {p0 : Nat} {x1 : Int32} {x2 : Int32} {M : Mem} (hF : f0_setCell p0 x1 x2 M = some R) : Wp layC ad X M 0 [(0, .ref (ad p0)), (1, .int x1), (2, .int x2)] [] := by
  unfold f0_setCell at hF
  refine R_iload_n (pc := 0) h 1 rfl rfl dX0_setCell_0 ?_
  refine R_if_lt (pc := 1) (tgt := 20) h dX0_setCell_1 (by decide) (fun c1 => ?_) (fun c1 => ?_)
  · have hF := itp c1 hF
    cases hF
    exact R_return (pc := 20) h rfl rfl rfl dX0_setCell_20
  · have hF := ifn c1 hF
    refine R_iload_n (pc := 4) h 1 rfl rfl dX0_setCell_4 ?_
    refine R_aload_n (pc := 5) h 0 rfl rfl dX0_setCell_5 ?_
    obtain ⟨_, hg2, hF⟩ := bd hF
    have hg2 := of_decide_eq_true (gd_s hg2)
    refine R_getR (pc := 6) (q1 := p0 + 10) h flX0_15 (lyCells hg2) rfl dX0_setCell_6 ?_
    refine R_alen (pc := 9) (v := 60) h (by decide) (by decide) (lyCellsA hg2) dX0_setCell_9 ?_
    refine R_icmp_ge (pc := 10) (tgt := 20) h dX0_setCell_10 (by decide) (fun c3 => ?_) (fun c3 => ?_)
    · have hF := itp c3 hF
      cases hF
      exact R_return (pc := 20) h rfl rfl rfl dX0_setCell_20
    · have hF := ifn c3 hF
      refine R_aload_n (pc := 13) h 0 rfl rfl dX0_setCell_13 ?_
      refine R_getR (pc := 14) (q1 := p0 + 10) h flX0_15 (lyCells hg2) rfl dX0_setCell_14 ?_
      refine R_iload_n (pc := 17) h 1 rfl rfl dX0_setCell_17 ?_
      refine R_iload_n (pc := 18) h 2 rfl rfl dX0_setCell_18 ?_
      obtain ⟨M4, hM4, hF⟩ := bd hF
      refine R_iast (pc := 19) h hM4 (lyCellsA hg2) dX0_setCell_19 ?_
      cases hF
      exact R_return (pc := 20) h rfl rfl rfl dX0_setCell_20
theorem c0_setCell {ad : Nat → Nat} {z : ZZ} {R : Mem} {p0 : Nat} {x1 : Int32} {x2 : Int32} {M : Mem} (hF : f0_setCell p0 x1 x2 M = some R) : Con layC ad z yX0_setCell cX0_setCell 3 none 1 M [.ref (ad p0), .int x1, .int x2] (R) none := con_of (own := RX0) (lv := [(0, .ref (ad p0)), (1, .int x1), (2, .int x2)]) (by decide +kernel) rfl (Nat.le_of_ble_eq_true rfl) rfl (fun X hz h => w0_setCell h hF)
def f4_lay (x1 : Int32) (x2 : Int32) (x3 : Int32) (M : Mem) : Option (Mem × Int32) :=
    (f4_rowAt x1).bind fun r2 =>
    oc r2 ((f4_refusePlace_N x2 M).bind fun ⟨M5, r6⟩ =>
    (some (M5, r6)))
    fun q3 => (f4_refusePlace q3 x2 M).bind fun ⟨M8, r9⟩ =>
    if r9 = 0 then ((gd (decide (q3 < 10))).bind fun _ =>
    (f0_cellAt M8 q3 x2).bind fun r13 =>
    nm (sI M8 28 6 r13) fun M14 =>
    (f0_setCell q3 x2 x3 M14).bind fun M16 =>
    (some (M16, (1 : Int32))))
    else ((some (M8, r9)))
set_option maxHeartbeats 4000000 in
set_option maxRecDepth 10000 in
theorem w4_lay {ad : Nat → Nat} {X : XX} {R : Mem × Int32} (h : Cx layC ad X cX4_lay RX4 6 4 (some .int) (R.1) (some (.int R.2))) {x1 : Int32} {x2 : Int32} {x3 : Int32} {M : Mem} (hF : f4_lay x1 x2 x3 M = some R) : Wp layC ad X M 0 [(0, .ref (ad 28)), (1, .int x1), (2, .int x2), (3, .int x3)] [] := by
  unfold f4_lay at hF
  refine R_aload_n (pc := 0) h 0 rfl rfl dX4_lay_0 ?_
  refine R_iload_n (pc := 1) h 1 rfl rfl dX4_lay_1 ?_
  obtain ⟨r2, hc1, hF⟩ := bd hF
  rcases r2 with _ | q3
  · have hF := oc_n hF
    refine R_callV (pc := 2) (st := []) h [.int x1] cvX4_51 (c4_rowAt (ad := ad) (z := X.1) (M := M) hc1) rfl rfl lc_28 (by decide) (by decide) (Nat.le_of_ble_eq_true rfl) dX4_lay_2 (st1 := [.null]) rfl ?_
    refine R_astoreN (pc := 5) (lv' := [(4, .null), (0, .ref (ad 28)), (1, .int x1), (2, .int x2), (3, .int x3)]) h (by decide) rfl dX4_lay_5 ?_
    refine R_aload_n (pc := 7) h 1 rfl rfl dX4_lay_7 ?_
    refine R_aloadN (pc := 8) h 0 rfl dX4_lay_8 ?_
    refine R_iload_n (pc := 10) h 3 rfl rfl dX4_lay_10 ?_
    obtain ⟨⟨M5, r6⟩, hc4, hF⟩ := bd hF
    refine R_callV (pc := 11) (st := []) h [.null, .int x2] cvX4_59 (c4_refusePlace_N (ad := ad) (z := X.1) hc4) rfl rfl lc_28 (by decide) (by decide) (Nat.le_of_ble_eq_true rfl) dX4_lay_11 (st1 := [.int r6]) rfl ?_
    refine R_istore (pc := 14) (lv' := [(5, .int r6), (4, .null), (0, .ref (ad 28)), (1, .int x1), (2, .int x2), (3, .int x3)]) h rfl (by decide) rfl dX4_lay_14 ?_
    refine R_aloadN (pc := 16) h 1 rfl dX4_lay_16 ?_
    refine R_ifnullN (pc := 18) (tgt := 26) h dX4_lay_18 (by decide) ?_
    refine R_iload (pc := 26) h 0 rfl dX4_lay_26 ?_
    cases hF
    exact R_ireturn (pc := 28) h rfl rfl rfl dX4_lay_28
  · have hF := oc_s hF
    refine R_callV (pc := 2) (st := []) h [.int x1] cvX4_51 (c4_rowAt (ad := ad) (z := X.1) (M := M) hc1) rfl rfl lc_28 (by decide) (by decide) (Nat.le_of_ble_eq_true rfl) dX4_lay_2 (st1 := [.ref (ad q3)]) rfl ?_
    refine R_astore (pc := 5) (lv' := [(4, .ref (ad q3)), (0, .ref (ad 28)), (1, .int x1), (2, .int x2), (3, .int x3)]) h rfl (by decide) rfl dX4_lay_5 ?_
    refine R_aload_n (pc := 7) h 1 rfl rfl dX4_lay_7 ?_
    refine R_aload (pc := 8) h 0 rfl dX4_lay_8 ?_
    refine R_iload_n (pc := 10) h 3 rfl rfl dX4_lay_10 ?_
    obtain ⟨⟨M8, r9⟩, hc7, hF⟩ := bd hF
    refine R_callV (pc := 11) (st := []) h [.ref (ad q3), .int x2] cvX4_59 (c4_refusePlace (ad := ad) (z := X.1) hc7) rfl rfl lc_28 (by decide) (by decide) (Nat.le_of_ble_eq_true rfl) dX4_lay_11 (st1 := [.int r9]) rfl ?_
    refine R_istore (pc := 14) (lv' := [(5, .int r9), (4, .ref (ad q3)), (0, .ref (ad 28)), (1, .int x1), (2, .int x2), (3, .int x3)]) h rfl (by decide) rfl dX4_lay_14 ?_
    refine R_aload (pc := 16) h 1 rfl dX4_lay_16 ?_
    refine R_ifnull (pc := 18) h dX4_lay_18 ?_
    refine R_iload (pc := 21) h 0 rfl dX4_lay_21 ?_
    refine R_if_eq (pc := 23) (tgt := 29) h dX4_lay_23 (by decide) (fun c10 => ?_) (fun c10 => ?_)
    · have hF := itp c10 hF
      refine R_aload_n (pc := 29) h 2 rfl rfl dX4_lay_29 ?_
      refine R_aload (pc := 30) h 1 rfl dX4_lay_30 ?_
      refine R_iload_n (pc := 32) h 4 rfl rfl dX4_lay_32 ?_
      obtain ⟨_, hg11, hF⟩ := bd hF
      have hg11 := of_decide_eq_true (gd_s hg11)
      obtain ⟨r13, hc12, hF⟩ := bd hF
      refine R_callV (pc := 33) (st := [.ref (ad 28)]) h [.int x2] cvX4_63 (c0_cellAt (ad := ad) (z := X.1) hc12) rfl rfl (lyCells hg11) (by decide) (by decide) (Nat.le_of_ble_eq_true rfl) dX4_lay_33 (st1 := [.int r13, .ref (ad 28)]) rfl ?_
      obtain ⟨M14, hM14, hF⟩ := nm_e2 hF
      refine R_putI (pc := 36) h hM14 fpX4_39 lc_28 rfl dX4_lay_36 ?_
      refine R_aload (pc := 39) h 1 rfl dX4_lay_39 ?_
      refine R_iload_n (pc := 41) h 4 rfl rfl dX4_lay_41 ?_
      refine R_iload_n (pc := 42) h 5 rfl rfl dX4_lay_42 ?_
      obtain ⟨M16, hc15, hF⟩ := bd hF
      refine R_callV (pc := 43) (st := []) h [.int x2, .int x3] cvX4_67 (c0_setCell (ad := ad) (z := X.1) hc15) rfl rfl (lyCells hg11) (by decide) (by decide) (Nat.le_of_ble_eq_true rfl) dX4_lay_43 (st1 := []) rfl ?_
      refine R_iconst (pc := 46) (v := 1) h (by decide) dX4_lay_46 ?_
      cases hF
      exact R_ireturn (pc := 47) h rfl rfl rfl dX4_lay_47
    · have hF := ifn c10 hF
      refine R_iload (pc := 26) h 0 rfl dX4_lay_26 ?_
      cases hF
      exact R_ireturn (pc := 28) h rfl rfl rfl dX4_lay_28
theorem c4_lay {ad : Nat → Nat} {z : ZZ} {R : Mem × Int32} {x1 : Int32} {x2 : Int32} {x3 : Int32} {M : Mem} (hF : f4_lay x1 x2 x3 M = some R) : Con layC ad z yX4_lay cX4_lay 6 (some .int) 4 M [.ref (ad 28), .int x1, .int x2, .int x3] (R.1) (some (.int R.2)) := con_of (own := RX4) (lv := [(0, .ref (ad 28)), (1, .int x1), (2, .int x2), (3, .int x3)]) (by decide +kernel) rfl (Nat.le_of_ble_eq_true rfl) rfl (fun X hz h => w4_lay h hF)
def f4_at (x1 : Int32) (x2 : Int32) (M : Mem) : Option (Mem × Int32) :=
    (f4_rowAt x1).bind fun r2 =>
    oc r2 ((f4_refusePlace_N x2 M).bind fun ⟨M5, r6⟩ =>
    (some (M5, r6)))
    fun q3 => (f4_refusePlace q3 x2 M).bind fun ⟨M8, r9⟩ =>
    if r9 = 0 then ((gd (decide (q3 < 10))).bind fun _ =>
    (f0_cellAt M8 q3 x2).bind fun r13 =>
    nm (sI M8 28 6 r13) fun M14 =>
    (some (M14, (1 : Int32))))
    else ((some (M8, r9)))
set_option maxHeartbeats 4000000 in
set_option maxRecDepth 10000 in
theorem w4_at {ad : Nat → Nat} {X : XX} {R : Mem × Int32} (h : Cx layC ad X cX4_at RX4 5 4 (some .int) (R.1) (some (.int R.2))) {x1 : Int32} {x2 : Int32} {M : Mem} (hF : f4_at x1 x2 M = some R) : Wp layC ad X M 0 [(0, .ref (ad 28)), (1, .int x1), (2, .int x2)] [] := by
  unfold f4_at at hF
  refine R_aload_n (pc := 0) h 0 rfl rfl dX4_at_0 ?_
  refine R_iload_n (pc := 1) h 1 rfl rfl dX4_at_1 ?_
  obtain ⟨r2, hc1, hF⟩ := bd hF
  rcases r2 with _ | q3
  · have hF := oc_n hF
    refine R_callV (pc := 2) (st := []) h [.int x1] cvX4_51 (c4_rowAt (ad := ad) (z := X.1) (M := M) hc1) rfl rfl lc_28 (by decide) (by decide) (Nat.le_of_ble_eq_true rfl) dX4_at_2 (st1 := [.null]) rfl ?_
    refine R_astore_nN (pc := 5) (lv' := [(3, .null), (0, .ref (ad 28)), (1, .int x1), (2, .int x2)]) h rfl (by decide) rfl dX4_at_5 ?_
    refine R_aload_n (pc := 6) h 1 rfl rfl dX4_at_6 ?_
    refine R_aload_nN (pc := 7) h 0 rfl rfl dX4_at_7 ?_
    refine R_iload_n (pc := 8) h 3 rfl rfl dX4_at_8 ?_
    obtain ⟨⟨M5, r6⟩, hc4, hF⟩ := bd hF
    refine R_callV (pc := 9) (st := []) h [.null, .int x2] cvX4_59 (c4_refusePlace_N (ad := ad) (z := X.1) hc4) rfl rfl lc_28 (by decide) (by decide) (Nat.le_of_ble_eq_true rfl) dX4_at_9 (st1 := [.int r6]) rfl ?_
    refine R_istore (pc := 12) (lv' := [(4, .int r6), (3, .null), (0, .ref (ad 28)), (1, .int x1), (2, .int x2)]) h rfl (by decide) rfl dX4_at_12 ?_
    refine R_aload_nN (pc := 14) h 1 rfl rfl dX4_at_14 ?_
    refine R_ifnullN (pc := 15) (tgt := 23) h dX4_at_15 (by decide) ?_
    refine R_iload (pc := 23) h 0 rfl dX4_at_23 ?_
    cases hF
    exact R_ireturn (pc := 25) h rfl rfl rfl dX4_at_25
  · have hF := oc_s hF
    refine R_callV (pc := 2) (st := []) h [.int x1] cvX4_51 (c4_rowAt (ad := ad) (z := X.1) (M := M) hc1) rfl rfl lc_28 (by decide) (by decide) (Nat.le_of_ble_eq_true rfl) dX4_at_2 (st1 := [.ref (ad q3)]) rfl ?_
    refine R_astore_n (pc := 5) (lv' := [(3, .ref (ad q3)), (0, .ref (ad 28)), (1, .int x1), (2, .int x2)]) h rfl rfl (by decide) rfl dX4_at_5 ?_
    refine R_aload_n (pc := 6) h 1 rfl rfl dX4_at_6 ?_
    refine R_aload_n (pc := 7) h 0 rfl rfl dX4_at_7 ?_
    refine R_iload_n (pc := 8) h 3 rfl rfl dX4_at_8 ?_
    obtain ⟨⟨M8, r9⟩, hc7, hF⟩ := bd hF
    refine R_callV (pc := 9) (st := []) h [.ref (ad q3), .int x2] cvX4_59 (c4_refusePlace (ad := ad) (z := X.1) hc7) rfl rfl lc_28 (by decide) (by decide) (Nat.le_of_ble_eq_true rfl) dX4_at_9 (st1 := [.int r9]) rfl ?_
    refine R_istore (pc := 12) (lv' := [(4, .int r9), (3, .ref (ad q3)), (0, .ref (ad 28)), (1, .int x1), (2, .int x2)]) h rfl (by decide) rfl dX4_at_12 ?_
    refine R_aload_n (pc := 14) h 1 rfl rfl dX4_at_14 ?_
    refine R_ifnull (pc := 15) h dX4_at_15 ?_
    refine R_iload (pc := 18) h 0 rfl dX4_at_18 ?_
    refine R_if_eq (pc := 20) (tgt := 26) h dX4_at_20 (by decide) (fun c10 => ?_) (fun c10 => ?_)
    · have hF := itp c10 hF
      refine R_aload_n (pc := 26) h 2 rfl rfl dX4_at_26 ?_
      refine R_aload_n (pc := 27) h 1 rfl rfl dX4_at_27 ?_
      refine R_iload_n (pc := 28) h 4 rfl rfl dX4_at_28 ?_
      obtain ⟨_, hg11, hF⟩ := bd hF
      have hg11 := of_decide_eq_true (gd_s hg11)
      obtain ⟨r13, hc12, hF⟩ := bd hF
      refine R_callV (pc := 29) (st := [.ref (ad 28)]) h [.int x2] cvX4_63 (c0_cellAt (ad := ad) (z := X.1) hc12) rfl rfl (lyCells hg11) (by decide) (by decide) (Nat.le_of_ble_eq_true rfl) dX4_at_29 (st1 := [.int r13, .ref (ad 28)]) rfl ?_
      obtain ⟨M14, hM14, hF⟩ := nm_e2 hF
      refine R_putI (pc := 32) h hM14 fpX4_39 lc_28 rfl dX4_at_32 ?_
      refine R_iconst (pc := 35) (v := 1) h (by decide) dX4_at_35 ?_
      cases hF
      exact R_ireturn (pc := 36) h rfl rfl rfl dX4_at_36
    · have hF := ifn c10 hF
      refine R_iload (pc := 23) h 0 rfl dX4_at_23 ?_
      cases hF
      exact R_ireturn (pc := 25) h rfl rfl rfl dX4_at_25
theorem c4_at {ad : Nat → Nat} {z : ZZ} {R : Mem × Int32} {x1 : Int32} {x2 : Int32} {M : Mem} (hF : f4_at x1 x2 M = some R) : Con layC ad z yX4_at cX4_at 5 (some .int) 4 M [.ref (ad 28), .int x1, .int x2] (R.1) (some (.int R.2)) := con_of (own := RX4) (lv := [(0, .ref (ad 28)), (1, .int x1), (2, .int x2)]) (by decide +kernel) rfl (Nat.le_of_ble_eq_true rfl) rfl (fun X hz h => w4_at h hF)
def f4_tear (x1 : Int32) (M : Mem) : Option (Mem × Int32) :=
    (f4_rowAt x1).bind fun r2 =>
    oc r2 ((f4_refuseMissing_N M).bind fun ⟨M5, r6⟩ =>
    (some (M5, r6)))
    fun q3 => (f4_refuseMissing q3 M).bind fun ⟨M8, r9⟩ =>
    if r9 = 0 then ((gd (decide (q3 < 10))).bind fun _ =>
    nm (sI M8 q3 0 (-1 : Int32)) fun M12 =>
    (some (M12, (1 : Int32))))
    else ((some (M8, r9)))
set_option maxHeartbeats 4000000 in
set_option maxRecDepth 10000 in
theorem w4_tear {ad : Nat → Nat} {X : XX} {R : Mem × Int32} (h : Cx layC ad X cX4_tear RX4 4 3 (some .int) (R.1) (some (.int R.2))) {x1 : Int32} {M : Mem} (hF : f4_tear x1 M = some R) : Wp layC ad X M 0 [(0, .ref (ad 28)), (1, .int x1)] [] := by
  unfold f4_tear at hF
  refine R_aload_n (pc := 0) h 0 rfl rfl dX4_tear_0 ?_
  refine R_iload_n (pc := 1) h 1 rfl rfl dX4_tear_1 ?_
  obtain ⟨r2, hc1, hF⟩ := bd hF
  rcases r2 with _ | q3
  · have hF := oc_n hF
    refine R_callV (pc := 2) (st := []) h [.int x1] cvX4_51 (c4_rowAt (ad := ad) (z := X.1) (M := M) hc1) rfl rfl lc_28 (by decide) (by decide) (Nat.le_of_ble_eq_true rfl) dX4_tear_2 (st1 := [.null]) rfl ?_
    refine R_astore_nN (pc := 5) (lv' := [(2, .null), (0, .ref (ad 28)), (1, .int x1)]) h rfl (by decide) rfl dX4_tear_5 ?_
    refine R_aload_n (pc := 6) h 1 rfl rfl dX4_tear_6 ?_
    refine R_aload_nN (pc := 7) h 0 rfl rfl dX4_tear_7 ?_
    obtain ⟨⟨M5, r6⟩, hc4, hF⟩ := bd hF
    refine R_callV (pc := 8) (st := []) h [.null] cvX4_71 (c4_refuseMissing_N (ad := ad) (z := X.1) hc4) rfl rfl lc_28 (by decide) (by decide) (Nat.le_of_ble_eq_true rfl) dX4_tear_8 (st1 := [.int r6]) rfl ?_
    refine R_istore_n (pc := 11) (lv' := [(3, .int r6), (2, .null), (0, .ref (ad 28)), (1, .int x1)]) h rfl rfl (by decide) rfl dX4_tear_11 ?_
    refine R_aload_nN (pc := 12) h 1 rfl rfl dX4_tear_12 ?_
    refine R_ifnullN (pc := 13) (tgt := 20) h dX4_tear_13 (by decide) ?_
    refine R_iload_n (pc := 20) h 0 rfl rfl dX4_tear_20 ?_
    cases hF
    exact R_ireturn (pc := 21) h rfl rfl rfl dX4_tear_21
  · have hF := oc_s hF
    refine R_callV (pc := 2) (st := []) h [.int x1] cvX4_51 (c4_rowAt (ad := ad) (z := X.1) (M := M) hc1) rfl rfl lc_28 (by decide) (by decide) (Nat.le_of_ble_eq_true rfl) dX4_tear_2 (st1 := [.ref (ad q3)]) rfl ?_
    refine R_astore_n (pc := 5) (lv' := [(2, .ref (ad q3)), (0, .ref (ad 28)), (1, .int x1)]) h rfl rfl (by decide) rfl dX4_tear_5 ?_
    refine R_aload_n (pc := 6) h 1 rfl rfl dX4_tear_6 ?_
    refine R_aload_n (pc := 7) h 0 rfl rfl dX4_tear_7 ?_
    obtain ⟨⟨M8, r9⟩, hc7, hF⟩ := bd hF
    refine R_callV (pc := 8) (st := []) h [.ref (ad q3)] cvX4_71 (c4_refuseMissing (ad := ad) (z := X.1) hc7) rfl rfl lc_28 (by decide) (by decide) (Nat.le_of_ble_eq_true rfl) dX4_tear_8 (st1 := [.int r9]) rfl ?_
    refine R_istore_n (pc := 11) (lv' := [(3, .int r9), (2, .ref (ad q3)), (0, .ref (ad 28)), (1, .int x1)]) h rfl rfl (by decide) rfl dX4_tear_11 ?_
    refine R_aload_n (pc := 12) h 1 rfl rfl dX4_tear_12 ?_
    refine R_ifnull (pc := 13) h dX4_tear_13 ?_
    refine R_iload_n (pc := 16) h 0 rfl rfl dX4_tear_16 ?_
    refine R_if_eq (pc := 17) (tgt := 22) h dX4_tear_17 (by decide) (fun c10 => ?_) (fun c10 => ?_)
    · have hF := itp c10 hF
      refine R_aload_n (pc := 22) h 1 rfl rfl dX4_tear_22 ?_
      refine R_iconst (pc := 23) (v := (-1)) h (by decide) dX4_tear_23 ?_
      obtain ⟨_, hg11, hF⟩ := bd hF
      have hg11 := of_decide_eq_true (gd_s hg11)
      obtain ⟨M12, hM12, hF⟩ := nm_e2 hF
      refine R_putI (pc := 24) h hM12 fpX4_75 (lyCells hg11) rfl dX4_tear_24 ?_
      refine R_iconst (pc := 27) (v := 1) h (by decide) dX4_tear_27 ?_
      cases hF
      exact R_ireturn (pc := 28) h rfl rfl rfl dX4_tear_28
    · have hF := ifn c10 hF
      refine R_iload_n (pc := 20) h 0 rfl rfl dX4_tear_20 ?_
      cases hF
      exact R_ireturn (pc := 21) h rfl rfl rfl dX4_tear_21
theorem c4_tear {ad : Nat → Nat} {z : ZZ} {R : Mem × Int32} {x1 : Int32} {M : Mem} (hF : f4_tear x1 M = some R) : Con layC ad z yX4_tear cX4_tear 4 (some .int) 3 M [.ref (ad 28), .int x1] (R.1) (some (.int R.2)) := con_of (own := RX4) (lv := [(0, .ref (ad 28)), (1, .int x1)]) (by decide +kernel) rfl (Nat.le_of_ble_eq_true rfl) rfl (fun X hz h => w4_tear h hF)
def f0_hasRun (M : Mem) (p0 : Nat) (x1 : Int32) (x2 : Int32) : Option (Int32) :=
    if x2 < 0 then ((some (0 : Int32)))
    else (if x1 < 0 then ((some (0 : Int32)))
    else ((gd (decide (p0 < 10))).bind fun _ =>
    if ((M.1 p0 0) - x2) < x1 then ((some (0 : Int32)))
    else ((some (1 : Int32)))))
set_option maxHeartbeats 4000000 in
set_option maxRecDepth 10000 in
theorem w0_hasRun {ad : Nat → Nat} {X : XX} {R : Int32} {M : Mem} (h : Cx layC ad X cX0_hasRun RX0 3 1 (some .boolean) M (some (.int R))) {p0 : Nat} {x1 : Int32} {x2 : Int32} (hF : f0_hasRun M p0 x1 x2 = some R) : Wp layC ad X M 0 [(0, .ref (ad p0)), (1, .int x1), (2, .int x2)] [] := by
  unfold f0_hasRun at hF
  refine R_iload_n (pc := 0) h 2 rfl rfl dX0_hasRun_0 ?_
  refine R_if_lt (pc := 1) (tgt := 22) h dX0_hasRun_1 (by decide) (fun c1 => ?_) (fun c1 => ?_)
  · have hF := itp c1 hF
    refine R_iconst (pc := 22) (v := 0) h (by decide) dX0_hasRun_22 ?_
    cases hF
    exact R_zreturn (pc := 23) h rfl zr0 rfl rfl dX0_hasRun_23
  · have hF := ifn c1 hF
    refine R_iload_n (pc := 4) h 1 rfl rfl dX0_hasRun_4 ?_
    refine R_if_lt (pc := 5) (tgt := 22) h dX0_hasRun_5 (by decide) (fun c2 => ?_) (fun c2 => ?_)
    · have hF := itp c2 hF
      refine R_iconst (pc := 22) (v := 0) h (by decide) dX0_hasRun_22 ?_
      cases hF
      exact R_zreturn (pc := 23) h rfl zr0 rfl rfl dX0_hasRun_23
    · have hF := ifn c2 hF
      refine R_iload_n (pc := 8) h 1 rfl rfl dX0_hasRun_8 ?_
      refine R_aload_n (pc := 9) h 0 rfl rfl dX0_hasRun_9 ?_
      obtain ⟨_, hg3, hF⟩ := bd hF
      have hg3 := of_decide_eq_true (gd_s hg3)
      refine R_getI (pc := 10) h flX0_9 (lyCells hg3) rfl dX0_hasRun_10 ?_
      refine R_iload_n (pc := 13) h 2 rfl rfl dX0_hasRun_13 ?_
      refine R_isub (pc := 14) h dX0_hasRun_14 ?_
      refine R_icmp_gt (pc := 15) (tgt := 22) h dX0_hasRun_15 (by decide) (fun c4 => ?_) (fun c4 => ?_)
      · have hF := itp c4 hF
        refine R_iconst (pc := 22) (v := 0) h (by decide) dX0_hasRun_22 ?_
        cases hF
        exact R_zreturn (pc := 23) h rfl zr0 rfl rfl dX0_hasRun_23
      · have hF := ifn c4 hF
        refine R_iconst (pc := 18) (v := 1) h (by decide) dX0_hasRun_18 ?_
        refine R_goto (pc := 19) (tgt := 23) h dX0_hasRun_19 (by decide) ?_
        cases hF
        exact R_zreturn (pc := 23) h rfl zr1 rfl rfl dX0_hasRun_23
theorem c0_hasRun {ad : Nat → Nat} {z : ZZ} {R : Int32} {M : Mem} {p0 : Nat} {x1 : Int32} {x2 : Int32} (hF : f0_hasRun M p0 x1 x2 = some R) : Con layC ad z yX0_hasRun cX0_hasRun 3 (some .boolean) 1 M [.ref (ad p0), .int x1, .int x2] (M) (some (.int R)) := con_of (own := RX0) (lv := [(0, .ref (ad p0)), (1, .int x1), (2, .int x2)]) (by decide +kernel) rfl (Nat.le_of_ble_eq_true rfl) rfl (fun X hz h => w0_hasRun h hF)
def f4_copy_53 (M : Mem) : Option (Mem × Int32) :=
    (f4_find (1 : Int32) M).bind fun ⟨M2, r3⟩ =>
    (some (M2, r3))
set_option maxHeartbeats 4000000 in
set_option maxRecDepth 10000 in
theorem w4_copy_53 {ad : Nat → Nat} {X : XX} {R : Mem × Int32}  (h : Cx layC ad X cX4_copy RX4 8 2 (some .int) (R.1) (some (.int R.2)))  {M : Mem} (hF : f4_copy_53 M = some R) : Wp layC ad X M 53 [(0, .ref (ad 28))] [] := by
  unfold f4_copy_53 at hF
  refine R_aload_n (pc := 53) h 0 rfl rfl dX4_copy_53 ?_
  refine R_iconst (pc := 54) (v := 1) h (by decide) dX4_copy_54 ?_
  obtain ⟨⟨M2, r3⟩, hc1, hF⟩ := bd hF
  refine R_callV (pc := 55) (st := []) h [.int (1 : Int32)] cvX4_78 (c4_find (ad := ad) (z := X.1) hc1) rfl rfl lc_28 (by decide) (by decide) (Nat.le_of_ble_eq_true rfl) dX4_copy_55 (st1 := [.int r3]) rfl ?_
  cases hF
  exact R_ireturn (pc := 58) h rfl rfl rfl dX4_copy_58
def f4_copy_82 (M : Mem) : Option (Mem × Int32) :=
    (f4_find (2 : Int32) M).bind fun ⟨M2, r3⟩ =>
    (some (M2, r3))
set_option maxHeartbeats 4000000 in
set_option maxRecDepth 10000 in
theorem w4_copy_82 {ad : Nat → Nat} {X : XX} {R : Mem × Int32}  (h : Cx layC ad X cX4_copy RX4 8 2 (some .int) (R.1) (some (.int R.2)))  {M : Mem} (hF : f4_copy_82 M = some R) : Wp layC ad X M 82 [(0, .ref (ad 28))] [] := by
  unfold f4_copy_82 at hF
  refine R_aload_n (pc := 82) h 0 rfl rfl dX4_copy_82 ?_
  refine R_iconst (pc := 83) (v := 2) h (by decide) dX4_copy_83 ?_
  obtain ⟨⟨M2, r3⟩, hc1, hF⟩ := bd hF
  refine R_callV (pc := 84) (st := []) h [.int (2 : Int32)] cvX4_78 (c4_find (ad := ad) (z := X.1) hc1) rfl rfl lc_28 (by decide) (by decide) (Nat.le_of_ble_eq_true rfl) dX4_copy_84 (st1 := [.int r3]) rfl ?_
  cases hF
  exact R_ireturn (pc := 87) h rfl rfl rfl dX4_copy_87
def f4_copy (x1 : Int32) (x2 : Int32) (x3 : Int32) (x4 : Int32) (x5 : Int32) (M : Mem) : Option (Mem × Int32) :=
    (f4_rowAt x1).bind fun r2 =>
    oc r2 ((f4_rowAt x3).bind fun r5 =>
    oc r5 ((some (M, (-1 : Int32))))
    fun q6 => (some (M, (-1 : Int32))))
    fun q3 => (f4_rowAt x3).bind fun r8 =>
    oc r8 ((some (M, (-1 : Int32))))
    fun q9 => if 0 ≤ x5 then ((gd (decide (q3 < 10))).bind fun _ =>
    (f0_isMissing M q3).bind fun r13 =>
    if r13 = 0 then ((gd (decide (q9 < 10))).bind fun _ =>
    (f0_isMissing M q9).bind fun r17 =>
    if r17 = 0 then ((f0_hasRun M q3 x2 x5).bind fun r20 =>
    if r20 = 0 then ((f4_copy_82 M))
    else ((f0_hasRun M q9 x4 x5).bind fun r23 =>
    if r23 = 0 then ((f4_copy_82 M))
    else ((cpy M (q3 + 10) 60 x2 (q9 + 10) 60 x4 x5).bind fun M25 =>
    (some (M25, (1 : Int32))))))
    else ((f4_copy_53 M)))
    else ((f4_copy_53 M)))
    else ((f4_find (5 : Int32) M).bind fun ⟨M27, r28⟩ =>
    (some (M27, r28)))
set_option maxHeartbeats 4000000 in
set_option maxRecDepth 10000 in
theorem w4_copy {ad : Nat → Nat} {X : XX} {R : Mem × Int32} (h : Cx layC ad X cX4_copy RX4 8 2 (some .int) (R.1) (some (.int R.2))) {x1 : Int32} {x2 : Int32} {x3 : Int32} {x4 : Int32} {x5 : Int32} {M : Mem} (hF : f4_copy x1 x2 x3 x4 x5 M = some R) : Wp layC ad X M 0 [(0, .ref (ad 28)), (1, .int x1), (2, .int x2), (3, .int x3), (4, .int x4), (5, .int x5)] [] := by
  unfold f4_copy at hF
  refine R_aload_n (pc := 0) h 0 rfl rfl dX4_copy_0 ?_
  refine R_iload_n (pc := 1) h 1 rfl rfl dX4_copy_1 ?_
  obtain ⟨r2, hc1, hF⟩ := bd hF
  rcases r2 with _ | q3
  · have hF := oc_n hF
    refine R_callV (pc := 2) (st := []) h [.int x1] cvX4_51 (c4_rowAt (ad := ad) (z := X.1) (M := M) hc1) rfl rfl lc_28 (by decide) (by decide) (Nat.le_of_ble_eq_true rfl) dX4_copy_2 (st1 := [.null]) rfl ?_
    refine R_astoreN (pc := 5) (lv' := [(6, .null), (0, .ref (ad 28)), (1, .int x1), (2, .int x2), (3, .int x3), (4, .int x4), (5, .int x5)]) h (by decide) rfl dX4_copy_5 ?_
    refine R_aload_n (pc := 7) h 1 rfl rfl dX4_copy_7 ?_
    refine R_iload_n (pc := 8) h 4 rfl rfl dX4_copy_8 ?_
    obtain ⟨r5, hc4, hF⟩ := bd hF
    rcases r5 with _ | q6
    · have hF := oc_n hF
      refine R_callV (pc := 9) (st := []) h [.int x3] cvX4_51 (c4_rowAt (ad := ad) (z := X.1) (M := M) hc4) rfl rfl lc_28 (by decide) (by decide) (Nat.le_of_ble_eq_true rfl) dX4_copy_9 (st1 := [.null]) rfl ?_
      refine R_astoreN (pc := 12) (lv' := [(7, .null), (6, .null), (0, .ref (ad 28)), (1, .int x1), (2, .int x2), (3, .int x3), (4, .int x4), (5, .int x5)]) h (by decide) rfl dX4_copy_12 ?_
      refine R_aloadN (pc := 14) h 1 rfl dX4_copy_14 ?_
      refine R_ifnullN (pc := 16) (tgt := 24) h dX4_copy_16 (by decide) ?_
      refine R_iconst (pc := 24) (v := (-1)) h (by decide) dX4_copy_24 ?_
      cases hF
      exact R_ireturn (pc := 25) h rfl rfl rfl dX4_copy_25
    · have hF := oc_s hF
      refine R_callV (pc := 9) (st := []) h [.int x3] cvX4_51 (c4_rowAt (ad := ad) (z := X.1) (M := M) hc4) rfl rfl lc_28 (by decide) (by decide) (Nat.le_of_ble_eq_true rfl) dX4_copy_9 (st1 := [.ref (ad q6)]) rfl ?_
      refine R_astore (pc := 12) (lv' := [(7, .ref (ad q6)), (6, .null), (0, .ref (ad 28)), (1, .int x1), (2, .int x2), (3, .int x3), (4, .int x4), (5, .int x5)]) h rfl (by decide) rfl dX4_copy_12 ?_
      refine R_aloadN (pc := 14) h 1 rfl dX4_copy_14 ?_
      refine R_ifnullN (pc := 16) (tgt := 24) h dX4_copy_16 (by decide) ?_
      refine R_iconst (pc := 24) (v := (-1)) h (by decide) dX4_copy_24 ?_
      cases hF
      exact R_ireturn (pc := 25) h rfl rfl rfl dX4_copy_25
  · have hF := oc_s hF
    refine R_callV (pc := 2) (st := []) h [.int x1] cvX4_51 (c4_rowAt (ad := ad) (z := X.1) (M := M) hc1) rfl rfl lc_28 (by decide) (by decide) (Nat.le_of_ble_eq_true rfl) dX4_copy_2 (st1 := [.ref (ad q3)]) rfl ?_
    refine R_astore (pc := 5) (lv' := [(6, .ref (ad q3)), (0, .ref (ad 28)), (1, .int x1), (2, .int x2), (3, .int x3), (4, .int x4), (5, .int x5)]) h rfl (by decide) rfl dX4_copy_5 ?_
    refine R_aload_n (pc := 7) h 1 rfl rfl dX4_copy_7 ?_
    refine R_iload_n (pc := 8) h 4 rfl rfl dX4_copy_8 ?_
    obtain ⟨r8, hc7, hF⟩ := bd hF
    rcases r8 with _ | q9
    · have hF := oc_n hF
      refine R_callV (pc := 9) (st := []) h [.int x3] cvX4_51 (c4_rowAt (ad := ad) (z := X.1) (M := M) hc7) rfl rfl lc_28 (by decide) (by decide) (Nat.le_of_ble_eq_true rfl) dX4_copy_9 (st1 := [.null]) rfl ?_
      refine R_astoreN (pc := 12) (lv' := [(7, .null), (6, .ref (ad q3)), (0, .ref (ad 28)), (1, .int x1), (2, .int x2), (3, .int x3), (4, .int x4), (5, .int x5)]) h (by decide) rfl dX4_copy_12 ?_
      refine R_aload (pc := 14) h 1 rfl dX4_copy_14 ?_
      refine R_ifnull (pc := 16) h dX4_copy_16 ?_
      refine R_aloadN (pc := 19) h 0 rfl dX4_copy_19 ?_
      refine R_ifnonnullN (pc := 21) h dX4_copy_21 ?_
      refine R_iconst (pc := 24) (v := (-1)) h (by decide) dX4_copy_24 ?_
      cases hF
      exact R_ireturn (pc := 25) h rfl rfl rfl dX4_copy_25
    · have hF := oc_s hF
      refine R_callV (pc := 9) (st := []) h [.int x3] cvX4_51 (c4_rowAt (ad := ad) (z := X.1) (M := M) hc7) rfl rfl lc_28 (by decide) (by decide) (Nat.le_of_ble_eq_true rfl) dX4_copy_9 (st1 := [.ref (ad q9)]) rfl ?_
      refine R_astore (pc := 12) (lv' := [(7, .ref (ad q9)), (6, .ref (ad q3)), (0, .ref (ad 28)), (1, .int x1), (2, .int x2), (3, .int x3), (4, .int x4), (5, .int x5)]) h rfl (by decide) rfl dX4_copy_12 ?_
      refine R_aload (pc := 14) h 1 rfl dX4_copy_14 ?_
      refine R_ifnull (pc := 16) h dX4_copy_16 ?_
      refine R_aload (pc := 19) h 0 rfl dX4_copy_19 ?_
      refine R_ifnonnull (pc := 21) (tgt := 26) h dX4_copy_21 (by decide) ?_
      refine R_iload (pc := 26) h 7 rfl dX4_copy_26 ?_
      refine R_if_ge (pc := 28) (tgt := 37) h dX4_copy_28 (by decide) (fun c10 => ?_) (fun c10 => ?_)
      · have hF := itp c10 hF
        refine R_aload (pc := 37) h 1 rfl dX4_copy_37 ?_
        obtain ⟨_, hg11, hF⟩ := bd hF
        have hg11 := of_decide_eq_true (gd_s hg11)
        obtain ⟨r13, hc12, hF⟩ := bd hF
        refine R_callV (pc := 39) (st := []) h [] cvX4_81 (c0_isMissing (ad := ad) (z := X.1) hc12) rfl rfl (lyCells hg11) (by decide) (by decide) (Nat.le_of_ble_eq_true rfl) dX4_copy_39 (st1 := [.int r13]) rfl ?_
        refine R_if_ne (pc := 42) (tgt := 53) h dX4_copy_42 (by decide) (fun c14 => ?_) (fun c14 => ?_)
        · have hF := ifn c14 hF
          exact Wp_sub (nX := 0) (lv' := [(0, .ref (ad 28))]) [2] rfl (w4_copy_53 h  (hF := hF))
        · have hF := itp c14 hF
          refine R_aload (pc := 45) h 0 rfl dX4_copy_45 ?_
          obtain ⟨_, hg15, hF⟩ := bd hF
          have hg15 := of_decide_eq_true (gd_s hg15)
          obtain ⟨r17, hc16, hF⟩ := bd hF
          refine R_callV (pc := 47) (st := []) h [] cvX4_81 (c0_isMissing (ad := ad) (z := X.1) hc16) rfl rfl (lyCells hg15) (by decide) (by decide) (Nat.le_of_ble_eq_true rfl) dX4_copy_47 (st1 := [.int r17]) rfl ?_
          refine R_if_eq (pc := 50) (tgt := 59) h dX4_copy_50 (by decide) (fun c18 => ?_) (fun c18 => ?_)
          · have hF := itp c18 hF
            refine R_aload (pc := 59) h 1 rfl dX4_copy_59 ?_
            refine R_iload_n (pc := 61) h 4 rfl rfl dX4_copy_61 ?_
            refine R_iload (pc := 62) h 7 rfl dX4_copy_62 ?_
            obtain ⟨r20, hc19, hF⟩ := bd hF
            refine R_callV (pc := 64) (st := []) h [.int x2, .int x5] cvX4_85 (c0_hasRun (ad := ad) (z := X.1) hc19) rfl rfl (lyCells hg11) (by decide) (by decide) (Nat.le_of_ble_eq_true rfl) dX4_copy_64 (st1 := [.int r20]) rfl ?_
            refine R_if_eq (pc := 67) (tgt := 82) h dX4_copy_67 (by decide) (fun c21 => ?_) (fun c21 => ?_)
            · have hF := itp c21 hF
              exact Wp_sub (nX := 0) (lv' := [(0, .ref (ad 28))]) [2] rfl (w4_copy_82 h  (hF := hF))
            · have hF := ifn c21 hF
              refine R_aload (pc := 70) h 0 rfl dX4_copy_70 ?_
              refine R_iload (pc := 72) h 6 rfl dX4_copy_72 ?_
              refine R_iload (pc := 74) h 7 rfl dX4_copy_74 ?_
              obtain ⟨r23, hc22, hF⟩ := bd hF
              refine R_callV (pc := 76) (st := []) h [.int x4, .int x5] cvX4_85 (c0_hasRun (ad := ad) (z := X.1) hc22) rfl rfl (lyCells hg15) (by decide) (by decide) (Nat.le_of_ble_eq_true rfl) dX4_copy_76 (st1 := [.int r23]) rfl ?_
              refine R_if_ne (pc := 79) (tgt := 88) h dX4_copy_79 (by decide) (fun c24 => ?_) (fun c24 => ?_)
              · have hF := ifn c24 hF
                refine R_aload (pc := 88) h 1 rfl dX4_copy_88 ?_
                refine R_getR (pc := 90) (q1 := q3 + 10) h flX4_89 (lyCells hg11) rfl dX4_copy_90 ?_
                refine R_iload_n (pc := 93) h 4 rfl rfl dX4_copy_93 ?_
                refine R_aload (pc := 94) h 0 rfl dX4_copy_94 ?_
                refine R_getR (pc := 96) (q1 := q9 + 10) h flX4_89 (lyCells hg15) rfl dX4_copy_96 ?_
                refine R_iload (pc := 99) h 6 rfl dX4_copy_99 ?_
                refine R_iload (pc := 101) h 7 rfl dX4_copy_101 ?_
                obtain ⟨M25, hM25, hF⟩ := bd hF
                refine R_copyi (pc := 103) h acX4_92 hM25 (lyCellsA hg11) (lyCellsA hg15) (by decide) rfl dX4_copy_103 ?_
                refine R_iconst (pc := 106) (v := 1) h (by decide) dX4_copy_106 ?_
                cases hF
                exact R_ireturn (pc := 107) h rfl rfl rfl dX4_copy_107
              · have hF := itp c24 hF
                exact Wp_sub (nX := 0) (lv' := [(0, .ref (ad 28))]) [2] rfl (w4_copy_82 h  (hF := hF))
          · have hF := ifn c18 hF
            exact Wp_sub (nX := 0) (lv' := [(0, .ref (ad 28))]) [2] rfl (w4_copy_53 h  (hF := hF))
      · have hF := ifn c10 hF
        refine R_aload_n (pc := 31) h 2 rfl rfl dX4_copy_31 ?_
        refine R_iconst (pc := 32) (v := 5) h (by decide) dX4_copy_32 ?_
        obtain ⟨⟨M27, r28⟩, hc26, hF⟩ := bd hF
        refine R_callV (pc := 33) (st := []) h [.int (5 : Int32)] cvX4_78 (c4_find (ad := ad) (z := X.1) hc26) rfl rfl lc_28 (by decide) (by decide) (Nat.le_of_ble_eq_true rfl) dX4_copy_33 (st1 := [.int r28]) rfl ?_
        cases hF
        exact R_ireturn (pc := 36) h rfl rfl rfl dX4_copy_36
theorem c4_copy {ad : Nat → Nat} {z : ZZ} {R : Mem × Int32} {x1 : Int32} {x2 : Int32} {x3 : Int32} {x4 : Int32} {x5 : Int32} {M : Mem} (hF : f4_copy x1 x2 x3 x4 x5 M = some R) : Con layC ad z yX4_copy cX4_copy 8 (some .int) 2 M [.ref (ad 28), .int x1, .int x2, .int x3, .int x4, .int x5] (R.1) (some (.int R.2)) := con_of (own := RX4) (lv := [(0, .ref (ad 28)), (1, .int x1), (2, .int x2), (3, .int x3), (4, .int x4), (5, .int x5)]) (by decide +kernel) rfl (Nat.le_of_ble_eq_true rfl) rfl (fun X hz h => w4_copy h hF)
def f4_mean_41 (fu : Nat) : Nat → Nat → Int64 → Int32 → Mem → Option (Mem × Int32)
  | 0 => fun _ _ _ _ => none
  | f + 1 => fun px2 x4 x6 M =>
    (gd (decide (px2 < 10))).bind fun _ =>
    if (M.1 px2 0) ≤ x6 then ((dvL x4 (M.1 px2 0).toInt64).bind fun v3 =>
    nm (sI M 28 6 v3.toInt32) fun M4 =>
    (some (M4, (1 : Int32))))
    else ((f0_cellAt M px2 x6).bind fun r6 =>
    nm (x4 + r6.toInt64) fun v7 =>
    nm (x6 + (1 : Int32)) fun v8 =>
    ((f4_mean_41 fu f) px2 v7 v8 M))
set_option maxHeartbeats 4000000 in
set_option maxRecDepth 10000 in
theorem w4_meani_41 {ad : Nat → Nat} {X : XX} {R : Mem × Int32} {fu : Nat}  (h : Cx layC ad X cX4_mean RX4 7 3 (some .int) (R.1) (some (.int R.2)))  : ∀ (f : Nat) (px2 : Nat) (x4 : Int64) (x6 : Int32) (M : Mem), f4_mean_41 fu f px2 x4 x6 M = some R → Wp layC ad X M 41 [(0, .ref (ad 28)), (2, .ref (ad px2)), (4, .long x4), (6, .int x6)] [] := by
  intro f
  induction f with
  | zero => intro px2 x4 x6 M hF; exact absurd hF (by simp [f4_mean_41])
  | succ f ih =>
    intro px2 x4 x6 M hF
    rw [f4_mean_41] at hF
    refine R_iload (pc := 41) h 3 rfl dX4_mean_41 ?_
    refine R_aload_n (pc := 43) h 1 rfl rfl dX4_mean_43 ?_
    obtain ⟨_, hg1, hF⟩ := bd hF
    have hg1 := of_decide_eq_true (gd_s hg1)
    refine R_getI (pc := 44) h flX4_75 (lyCells hg1) rfl dX4_mean_44 ?_
    refine R_icmp_ge (pc := 47) (tgt := 68) h dX4_mean_47 (by decide) (fun c2 => ?_) (fun c2 => ?_)
    · have hF := itp c2 hF
      refine R_aload_n (pc := 68) h 0 rfl rfl dX4_mean_68 ?_
      refine R_lload (pc := 69) h 2 rfl dX4_mean_69 ?_
      refine R_aload_n (pc := 71) h 1 rfl rfl dX4_mean_71 ?_
      refine R_getI (pc := 72) h flX4_75 (lyCells hg1) rfl dX4_mean_72 ?_
      refine R_i2l (pc := 75) h dX4_mean_75 ?_
      obtain ⟨v3, hv3, hF⟩ := bd hF
      refine R_ldiv (pc := 76) h hv3 dX4_mean_76 ?_
      refine R_l2i (pc := 77) h dX4_mean_77 ?_
      obtain ⟨M4, hM4, hF⟩ := nm_e2 hF
      refine R_putI (pc := 78) h hM4 fpX4_39 lc_28 rfl dX4_mean_78 ?_
      refine R_iconst (pc := 81) (v := 1) h (by decide) dX4_mean_81 ?_
      cases hF
      exact R_ireturn (pc := 82) h rfl rfl rfl dX4_mean_82
    · have hF := ifn c2 hF
      refine R_lload (pc := 50) h 2 rfl dX4_mean_50 ?_
      refine R_aload_n (pc := 52) h 1 rfl rfl dX4_mean_52 ?_
      refine R_iload (pc := 53) h 3 rfl dX4_mean_53 ?_
      obtain ⟨r6, hc5, hF⟩ := bd hF
      refine R_callV (pc := 55) (st := [.long x4]) h [.int x6] cvX4_63 (c0_cellAt (ad := ad) (z := X.1) hc5) rfl rfl (lyCells hg1) (by decide) (by decide) (Nat.le_of_ble_eq_true rfl) dX4_mean_55 (st1 := [.int r6, .long x4]) rfl ?_
      refine R_i2l (pc := 58) h dX4_mean_58 ?_
      refine R_ladd (pc := 59) h dX4_mean_59 ?_
      obtain ⟨v7, hv7, hF⟩ := nm_e2 hF
      refine R_lstore (pc := 60) (lv' := [(4, .long v7), (0, .ref (ad 28)), (2, .ref (ad px2)), (6, .int x6)]) h hv7 (by decide) rfl dX4_mean_60 ?_
      obtain ⟨v8, hv8, hF⟩ := nm_e2 hF
      refine R_iinc (pc := 62) (lv' := [(6, .int v8), (4, .long v7), (0, .ref (ad 28)), (2, .ref (ad px2))]) h 3 rfl (by decide) hv8 (by decide) rfl dX4_mean_62 ?_
      refine R_goto (pc := 65) (tgt := 41) h dX4_mean_65 (by decide) ?_
      exact Wp_sub (nX := 0) (lv' := [(0, .ref (ad 28)), (2, .ref (ad px2)), (4, .long v7), (6, .int v8)]) [2, 3, 1, 0] rfl (ih _ _ _ _ hF)
theorem w4_mean_41 {ad : Nat → Nat} {X : XX} {R : Mem × Int32} {fu : Nat}  (h : Cx layC ad X cX4_mean RX4 7 3 (some .int) (R.1) (some (.int R.2)))  {f : Nat} {px2 : Nat} {x4 : Int64} {x6 : Int32} {M : Mem} (hF : f4_mean_41 fu f px2 x4 x6 M = some R) : Wp layC ad X M 41 [(0, .ref (ad 28)), (2, .ref (ad px2)), (4, .long x4), (6, .int x6)] [] := w4_meani_41 h  f _ _ _ _ hF
def f4_mean (fu : Nat) (x1 : Int32) (M : Mem) : Option (Mem × Int32) :=
    (f4_rowAt x1).bind fun r2 =>
    oc r2 ((f4_refuseMissing_N M).bind fun ⟨M5, r6⟩ =>
    (some (M5, r6)))
    fun q3 => (f4_refuseMissing q3 M).bind fun ⟨M8, r9⟩ =>
    if r9 = 0 then ((gd (decide (q3 < 10))).bind fun _ =>
    if (M8.1 q3 0) = 0 then ((f4_find (4 : Int32) M8).bind fun ⟨M14, r15⟩ =>
    (some (M14, r15)))
    else ((f4_mean_41 fu fu q3 (0 : Int64) (0 : Int32) M8)))
    else ((some (M8, r9)))
set_option maxHeartbeats 4000000 in
set_option maxRecDepth 10000 in
theorem w4_mean {ad : Nat → Nat} {X : XX} {R : Mem × Int32} {fu : Nat} (h : Cx layC ad X cX4_mean RX4 7 3 (some .int) (R.1) (some (.int R.2))) {x1 : Int32} {M : Mem} (hF : f4_mean fu x1 M = some R) : Wp layC ad X M 0 [(0, .ref (ad 28)), (1, .int x1)] [] := by
  unfold f4_mean at hF
  refine R_aload_n (pc := 0) h 0 rfl rfl dX4_mean_0 ?_
  refine R_iload_n (pc := 1) h 1 rfl rfl dX4_mean_1 ?_
  obtain ⟨r2, hc1, hF⟩ := bd hF
  rcases r2 with _ | q3
  · have hF := oc_n hF
    refine R_callV (pc := 2) (st := []) h [.int x1] cvX4_51 (c4_rowAt (ad := ad) (z := X.1) (M := M) hc1) rfl rfl lc_28 (by decide) (by decide) (Nat.le_of_ble_eq_true rfl) dX4_mean_2 (st1 := [.null]) rfl ?_
    refine R_astore_nN (pc := 5) (lv' := [(2, .null), (0, .ref (ad 28)), (1, .int x1)]) h rfl (by decide) rfl dX4_mean_5 ?_
    refine R_aload_n (pc := 6) h 1 rfl rfl dX4_mean_6 ?_
    refine R_aload_nN (pc := 7) h 0 rfl rfl dX4_mean_7 ?_
    obtain ⟨⟨M5, r6⟩, hc4, hF⟩ := bd hF
    refine R_callV (pc := 8) (st := []) h [.null] cvX4_71 (c4_refuseMissing_N (ad := ad) (z := X.1) hc4) rfl rfl lc_28 (by decide) (by decide) (Nat.le_of_ble_eq_true rfl) dX4_mean_8 (st1 := [.int r6]) rfl ?_
    refine R_istore_n (pc := 11) (lv' := [(3, .int r6), (2, .null), (0, .ref (ad 28)), (1, .int x1)]) h rfl rfl (by decide) rfl dX4_mean_11 ?_
    refine R_aload_nN (pc := 12) h 1 rfl rfl dX4_mean_12 ?_
    refine R_ifnullN (pc := 13) (tgt := 20) h dX4_mean_13 (by decide) ?_
    refine R_iload_n (pc := 20) h 0 rfl rfl dX4_mean_20 ?_
    cases hF
    exact R_ireturn (pc := 21) h rfl rfl rfl dX4_mean_21
  · have hF := oc_s hF
    refine R_callV (pc := 2) (st := []) h [.int x1] cvX4_51 (c4_rowAt (ad := ad) (z := X.1) (M := M) hc1) rfl rfl lc_28 (by decide) (by decide) (Nat.le_of_ble_eq_true rfl) dX4_mean_2 (st1 := [.ref (ad q3)]) rfl ?_
    refine R_astore_n (pc := 5) (lv' := [(2, .ref (ad q3)), (0, .ref (ad 28)), (1, .int x1)]) h rfl rfl (by decide) rfl dX4_mean_5 ?_
    refine R_aload_n (pc := 6) h 1 rfl rfl dX4_mean_6 ?_
    refine R_aload_n (pc := 7) h 0 rfl rfl dX4_mean_7 ?_
    obtain ⟨⟨M8, r9⟩, hc7, hF⟩ := bd hF
    refine R_callV (pc := 8) (st := []) h [.ref (ad q3)] cvX4_71 (c4_refuseMissing (ad := ad) (z := X.1) hc7) rfl rfl lc_28 (by decide) (by decide) (Nat.le_of_ble_eq_true rfl) dX4_mean_8 (st1 := [.int r9]) rfl ?_
    refine R_istore_n (pc := 11) (lv' := [(3, .int r9), (2, .ref (ad q3)), (0, .ref (ad 28)), (1, .int x1)]) h rfl rfl (by decide) rfl dX4_mean_11 ?_
    refine R_aload_n (pc := 12) h 1 rfl rfl dX4_mean_12 ?_
    refine R_ifnull (pc := 13) h dX4_mean_13 ?_
    refine R_iload_n (pc := 16) h 0 rfl rfl dX4_mean_16 ?_
    refine R_if_eq (pc := 17) (tgt := 22) h dX4_mean_17 (by decide) (fun c10 => ?_) (fun c10 => ?_)
    · have hF := itp c10 hF
      refine R_aload_n (pc := 22) h 1 rfl rfl dX4_mean_22 ?_
      obtain ⟨_, hg11, hF⟩ := bd hF
      have hg11 := of_decide_eq_true (gd_s hg11)
      refine R_getI (pc := 23) h flX4_75 (lyCells hg11) rfl dX4_mean_23 ?_
      refine R_if_ne (pc := 26) (tgt := 35) h dX4_mean_26 (by decide) (fun c12 => ?_) (fun c12 => ?_)
      · have hF := ifn c12 hF
        refine R_lconst (pc := 35) (v := 0) h (by decide) dX4_mean_35 ?_
        refine R_lstore (pc := 36) (lv' := [(4, .long (0 : Int64)), (3, .int r9), (2, .ref (ad q3)), (0, .ref (ad 28)), (1, .int x1)]) h rfl (by decide) rfl dX4_mean_36 ?_
        refine R_iconst (pc := 38) (v := 0) h (by decide) dX4_mean_38 ?_
        refine R_istore (pc := 39) (lv' := [(6, .int (0 : Int32)), (4, .long (0 : Int64)), (3, .int r9), (2, .ref (ad q3)), (0, .ref (ad 28)), (1, .int x1)]) h rfl (by decide) rfl dX4_mean_39 ?_
        exact Wp_sub (nX := 0) (lv' := [(0, .ref (ad 28)), (2, .ref (ad q3)), (4, .long (0 : Int64)), (6, .int (0 : Int32))]) [4, 3, 1, 0] rfl (w4_mean_41 h  (hF := hF))
      · have hF := itp c12 hF
        refine R_aload_n (pc := 29) h 2 rfl rfl dX4_mean_29 ?_
        refine R_iconst (pc := 30) (v := 4) h (by decide) dX4_mean_30 ?_
        obtain ⟨⟨M14, r15⟩, hc13, hF⟩ := bd hF
        refine R_callV (pc := 31) (st := []) h [.int (4 : Int32)] cvX4_78 (c4_find (ad := ad) (z := X.1) hc13) rfl rfl lc_28 (by decide) (by decide) (Nat.le_of_ble_eq_true rfl) dX4_mean_31 (st1 := [.int r15]) rfl ?_
        cases hF
        exact R_ireturn (pc := 34) h rfl rfl rfl dX4_mean_34
    · have hF := ifn c10 hF
      refine R_iload_n (pc := 20) h 0 rfl rfl dX4_mean_20 ?_
      cases hF
      exact R_ireturn (pc := 21) h rfl rfl rfl dX4_mean_21
theorem c4_mean {ad : Nat → Nat} {z : ZZ} {R : Mem × Int32} {fu : Nat} {x1 : Int32} {M : Mem} (hF : f4_mean fu x1 M = some R) : Con layC ad z yX4_mean cX4_mean 7 (some .int) 3 M [.ref (ad 28), .int x1] (R.1) (some (.int R.2)) := con_of (own := RX4) (lv := [(0, .ref (ad 28)), (1, .int x1)]) (by decide +kernel) rfl (Nat.le_of_ble_eq_true rfl) rfl (fun X hz h => w4_mean h hF)
def f4_textAt (x1 : Int32) : Option (Option Nat) :=
    if x1 < 0 then ((some none))
    else (if (4 : Int32) ≤ x1 then ((some none))
    else ((rdR [6, 7, 8, 9] x1).bind fun q3 =>
    (some (some q3))))
set_option maxHeartbeats 4000000 in
set_option maxRecDepth 10000 in
theorem w4_textAt {ad : Nat → Nat} {X : XX} {R : Option Nat} {M : Mem} (h : Cx layC ad X cX4_textAt RX4 2 1 (some (.object "PinDuties$Cells")) M (some (rv ad R))) {x1 : Int32} (hF : f4_textAt x1 = some R) : Wp layC ad X M 0 [(0, .ref (ad 28)), (1, .int x1)] [] := by
  unfold f4_textAt at hF
  refine R_iload_n (pc := 0) h 1 rfl rfl dX4_textAt_0 ?_
  refine R_if_lt (pc := 1) (tgt := 18) h dX4_textAt_1 (by decide) (fun c1 => ?_) (fun c1 => ?_)
  · have hF := itp c1 hF
    refine R_null (pc := 18) h dX4_textAt_18 ?_
    cases hF
    exact R_areturn (pc := 19) h rfl (Or.inl rfl) rfl rfl dX4_textAt_19
  · have hF := ifn c1 hF
    refine R_iload_n (pc := 4) h 1 rfl rfl dX4_textAt_4 ?_
    refine R_iconst (pc := 5) (v := 4) h (by decide) dX4_textAt_5 ?_
    refine R_icmp_ge (pc := 6) (tgt := 18) h dX4_textAt_6 (by decide) (fun c2 => ?_) (fun c2 => ?_)
    · have hF := itp c2 hF
      refine R_null (pc := 18) h dX4_textAt_18 ?_
      cases hF
      exact R_areturn (pc := 19) h rfl (Or.inl rfl) rfl rfl dX4_textAt_19
    · have hF := ifn c2 hF
      refine R_aload_n (pc := 9) h 0 rfl rfl dX4_textAt_9 ?_
      refine R_getR (pc := 10) (q1 := 30) h flX4_15 lc_28 rfl dX4_textAt_10 ?_
      refine R_iload_n (pc := 13) h 1 rfl rfl dX4_textAt_13 ?_
      obtain ⟨q3, hq3, hF⟩ := bd hF
      refine R_aald (pc := 14) h hq3 (by decide) lc_30 dX4_textAt_14 ?_
      refine R_goto (pc := 15) (tgt := 19) h dX4_textAt_15 (by decide) ?_
      cases hF
      exact R_areturn (pc := 19) h rfl (Or.inr ⟨_, rfl⟩) rfl rfl dX4_textAt_19
theorem c4_textAt {ad : Nat → Nat} {z : ZZ} {R : Option Nat} {M : Mem} {x1 : Int32} (hF : f4_textAt x1 = some R) : Con layC ad z yX4_textAt cX4_textAt 2 (some (.object "PinDuties$Cells")) 1 M [.ref (ad 28), .int x1] (M) (some (rv ad R)) := con_of (own := RX4) (lv := [(0, .ref (ad 28)), (1, .int x1)]) (by decide +kernel) rfl (Nat.le_of_ble_eq_true rfl) rfl (fun X hz h => w4_textAt h hF)
def f4_text (fu : Nat) (x1 : Int32) (x2 : Int32) (M : Mem) : Option (Mem × Int32) :=
    (f4_textAt x1).bind fun r2 =>
    oc r2 ((f4_makeCells_N fu x2 (60 : Int32) (32 : Int32) M).bind fun ⟨M5, r6⟩ =>
    (some (M5, r6)))
    fun q3 => (f4_makeCells fu q3 x2 (60 : Int32) (32 : Int32) M).bind fun ⟨M8, r9⟩ =>
    (some (M8, r9))
set_option maxHeartbeats 4000000 in
set_option maxRecDepth 10000 in
theorem w4_text {ad : Nat → Nat} {X : XX} {R : Mem × Int32} {fu : Nat} (h : Cx layC ad X cX4_text RX4 3 3 (some .int) (R.1) (some (.int R.2))) {x1 : Int32} {x2 : Int32} {M : Mem} (hF : f4_text fu x1 x2 M = some R) : Wp layC ad X M 0 [(0, .ref (ad 28)), (1, .int x1), (2, .int x2)] [] := by
  unfold f4_text at hF
  refine R_aload_n (pc := 0) h 0 rfl rfl dX4_text_0 ?_
  refine R_aload_n (pc := 1) h 0 rfl rfl dX4_text_1 ?_
  refine R_iload_n (pc := 2) h 1 rfl rfl dX4_text_2 ?_
  obtain ⟨r2, hc1, hF⟩ := bd hF
  rcases r2 with _ | q3
  · have hF := oc_n hF
    refine R_callV (pc := 3) (st := [.ref (ad 28)]) h [.int x1] cvX4_98 (c4_textAt (ad := ad) (z := X.1) (M := M) hc1) rfl rfl lc_28 (by decide) (by decide) (Nat.le_of_ble_eq_true rfl) dX4_text_3 (st1 := [.null, .ref (ad 28)]) rfl ?_
    refine R_iload_n (pc := 6) h 2 rfl rfl dX4_text_6 ?_
    refine R_bipush (pc := 7) (v := 60) h (by decide) dX4_text_7 ?_
    refine R_bipush (pc := 9) (v := 32) h (by decide) dX4_text_9 ?_
    obtain ⟨⟨M5, r6⟩, hc4, hF⟩ := bd hF
    refine R_callV (pc := 11) (st := []) h [.null, .int x2, .int (60 : Int32), .int (32 : Int32)] cvX4_55 (c4_makeCells_N (ad := ad) (z := X.1) hc4) rfl rfl lc_28 (by decide) (by decide) (Nat.le_of_ble_eq_true rfl) dX4_text_11 (st1 := [.int r6]) rfl ?_
    cases hF
    exact R_ireturn (pc := 14) h rfl rfl rfl dX4_text_14
  · have hF := oc_s hF
    refine R_callV (pc := 3) (st := [.ref (ad 28)]) h [.int x1] cvX4_98 (c4_textAt (ad := ad) (z := X.1) (M := M) hc1) rfl rfl lc_28 (by decide) (by decide) (Nat.le_of_ble_eq_true rfl) dX4_text_3 (st1 := [.ref (ad q3), .ref (ad 28)]) rfl ?_
    refine R_iload_n (pc := 6) h 2 rfl rfl dX4_text_6 ?_
    refine R_bipush (pc := 7) (v := 60) h (by decide) dX4_text_7 ?_
    refine R_bipush (pc := 9) (v := 32) h (by decide) dX4_text_9 ?_
    obtain ⟨⟨M8, r9⟩, hc7, hF⟩ := bd hF
    refine R_callV (pc := 11) (st := []) h [.ref (ad q3), .int x2, .int (60 : Int32), .int (32 : Int32)] cvX4_55 (c4_makeCells (ad := ad) (z := X.1) hc7) rfl rfl lc_28 (by decide) (by decide) (Nat.le_of_ble_eq_true rfl) dX4_text_11 (st1 := [.int r9]) rfl ?_
    cases hF
    exact R_ireturn (pc := 14) h rfl rfl rfl dX4_text_14
theorem c4_text {ad : Nat → Nat} {z : ZZ} {R : Mem × Int32} {fu : Nat} {x1 : Int32} {x2 : Int32} {M : Mem} (hF : f4_text fu x1 x2 M = some R) : Con layC ad z yX4_text cX4_text 3 (some .int) 3 M [.ref (ad 28), .int x1, .int x2] (R.1) (some (.int R.2)) := con_of (own := RX4) (lv := [(0, .ref (ad 28)), (1, .int x1), (2, .int x2)]) (by decide +kernel) rfl (Nat.le_of_ble_eq_true rfl) rfl (fun X hz h => w4_text h hF)
def f4_put (x1 : Int32) (x2 : Int32) (x3 : Int32) (M : Mem) : Option (Mem × Int32) :=
    (f4_textAt x1).bind fun r2 =>
    oc r2 ((f4_refusePlace_N x2 M).bind fun ⟨M5, r6⟩ =>
    (some (M5, r6)))
    fun q3 => (f4_refusePlace q3 x2 M).bind fun ⟨M8, r9⟩ =>
    if r9 = 0 then ((gd (decide (q3 < 10))).bind fun _ =>
    (f0_cellAt M8 q3 x2).bind fun r13 =>
    (f0_setCell q3 x2 x3.toInt8.toInt32 M8).bind fun M15 =>
    (some (M15, (r13 + (1000 : Int32)))))
    else ((some (M8, r9)))
set_option maxHeartbeats 4000000 in
set_option maxRecDepth 10000 in
theorem w4_put {ad : Nat → Nat} {X : XX} {R : Mem × Int32} (h : Cx layC ad X cX4_put RX4 7 4 (some .int) (R.1) (some (.int R.2))) {x1 : Int32} {x2 : Int32} {x3 : Int32} {M : Mem} (hF : f4_put x1 x2 x3 M = some R) : Wp layC ad X M 0 [(0, .ref (ad 28)), (1, .int x1), (2, .int x2), (3, .int x3)] [] := by
  unfold f4_put at hF
  refine R_aload_n (pc := 0) h 0 rfl rfl dX4_put_0 ?_
  refine R_iload_n (pc := 1) h 1 rfl rfl dX4_put_1 ?_
  obtain ⟨r2, hc1, hF⟩ := bd hF
  rcases r2 with _ | q3
  · have hF := oc_n hF
    refine R_callV (pc := 2) (st := []) h [.int x1] cvX4_98 (c4_textAt (ad := ad) (z := X.1) (M := M) hc1) rfl rfl lc_28 (by decide) (by decide) (Nat.le_of_ble_eq_true rfl) dX4_put_2 (st1 := [.null]) rfl ?_
    refine R_astoreN (pc := 5) (lv' := [(4, .null), (0, .ref (ad 28)), (1, .int x1), (2, .int x2), (3, .int x3)]) h (by decide) rfl dX4_put_5 ?_
    refine R_aload_n (pc := 7) h 1 rfl rfl dX4_put_7 ?_
    refine R_aloadN (pc := 8) h 0 rfl dX4_put_8 ?_
    refine R_iload_n (pc := 10) h 3 rfl rfl dX4_put_10 ?_
    obtain ⟨⟨M5, r6⟩, hc4, hF⟩ := bd hF
    refine R_callV (pc := 11) (st := []) h [.null, .int x2] cvX4_59 (c4_refusePlace_N (ad := ad) (z := X.1) hc4) rfl rfl lc_28 (by decide) (by decide) (Nat.le_of_ble_eq_true rfl) dX4_put_11 (st1 := [.int r6]) rfl ?_
    refine R_istore (pc := 14) (lv' := [(5, .int r6), (4, .null), (0, .ref (ad 28)), (1, .int x1), (2, .int x2), (3, .int x3)]) h rfl (by decide) rfl dX4_put_14 ?_
    refine R_aloadN (pc := 16) h 1 rfl dX4_put_16 ?_
    refine R_ifnullN (pc := 18) (tgt := 26) h dX4_put_18 (by decide) ?_
    refine R_iload (pc := 26) h 0 rfl dX4_put_26 ?_
    cases hF
    exact R_ireturn (pc := 28) h rfl rfl rfl dX4_put_28
  · have hF := oc_s hF
    refine R_callV (pc := 2) (st := []) h [.int x1] cvX4_98 (c4_textAt (ad := ad) (z := X.1) (M := M) hc1) rfl rfl lc_28 (by decide) (by decide) (Nat.le_of_ble_eq_true rfl) dX4_put_2 (st1 := [.ref (ad q3)]) rfl ?_
    refine R_astore (pc := 5) (lv' := [(4, .ref (ad q3)), (0, .ref (ad 28)), (1, .int x1), (2, .int x2), (3, .int x3)]) h rfl (by decide) rfl dX4_put_5 ?_
    refine R_aload_n (pc := 7) h 1 rfl rfl dX4_put_7 ?_
    refine R_aload (pc := 8) h 0 rfl dX4_put_8 ?_
    refine R_iload_n (pc := 10) h 3 rfl rfl dX4_put_10 ?_
    obtain ⟨⟨M8, r9⟩, hc7, hF⟩ := bd hF
    refine R_callV (pc := 11) (st := []) h [.ref (ad q3), .int x2] cvX4_59 (c4_refusePlace (ad := ad) (z := X.1) hc7) rfl rfl lc_28 (by decide) (by decide) (Nat.le_of_ble_eq_true rfl) dX4_put_11 (st1 := [.int r9]) rfl ?_
    refine R_istore (pc := 14) (lv' := [(5, .int r9), (4, .ref (ad q3)), (0, .ref (ad 28)), (1, .int x1), (2, .int x2), (3, .int x3)]) h rfl (by decide) rfl dX4_put_14 ?_
    refine R_aload (pc := 16) h 1 rfl dX4_put_16 ?_
    refine R_ifnull (pc := 18) h dX4_put_18 ?_
    refine R_iload (pc := 21) h 0 rfl dX4_put_21 ?_
    refine R_if_eq (pc := 23) (tgt := 29) h dX4_put_23 (by decide) (fun c10 => ?_) (fun c10 => ?_)
    · have hF := itp c10 hF
      refine R_aload (pc := 29) h 1 rfl dX4_put_29 ?_
      refine R_iload_n (pc := 31) h 4 rfl rfl dX4_put_31 ?_
      obtain ⟨_, hg11, hF⟩ := bd hF
      have hg11 := of_decide_eq_true (gd_s hg11)
      obtain ⟨r13, hc12, hF⟩ := bd hF
      refine R_callV (pc := 32) (st := []) h [.int x2] cvX4_63 (c0_cellAt (ad := ad) (z := X.1) hc12) rfl rfl (lyCells hg11) (by decide) (by decide) (Nat.le_of_ble_eq_true rfl) dX4_put_32 (st1 := [.int r13]) rfl ?_
      refine R_istore (pc := 35) (lv' := [(6, .int r13), (5, .int r9), (4, .ref (ad q3)), (0, .ref (ad 28)), (1, .int x1), (2, .int x2), (3, .int x3)]) h rfl (by decide) rfl dX4_put_35 ?_
      refine R_aload (pc := 37) h 2 rfl dX4_put_37 ?_
      refine R_iload_n (pc := 39) h 5 rfl rfl dX4_put_39 ?_
      refine R_iload_n (pc := 40) h 6 rfl rfl dX4_put_40 ?_
      refine R_i2b (pc := 41) h dX4_put_41 ?_
      obtain ⟨M15, hc14, hF⟩ := bd hF
      refine R_callV (pc := 42) (st := []) h [.int x2, .int x3.toInt8.toInt32] cvX4_67 (c0_setCell (ad := ad) (z := X.1) hc14) rfl rfl (lyCells hg11) (by decide) (by decide) (Nat.le_of_ble_eq_true rfl) dX4_put_42 (st1 := []) rfl ?_
      refine R_iload (pc := 45) h 0 rfl dX4_put_45 ?_
      refine R_sipush (pc := 47) (v := 1000) h (by decide) dX4_put_47 ?_
      refine R_iadd (pc := 50) h dX4_put_50 ?_
      cases hF
      exact R_ireturn (pc := 51) h rfl rfl rfl dX4_put_51
    · have hF := ifn c10 hF
      refine R_iload (pc := 26) h 0 rfl dX4_put_26 ?_
      cases hF
      exact R_ireturn (pc := 28) h rfl rfl rfl dX4_put_28
theorem c4_put {ad : Nat → Nat} {z : ZZ} {R : Mem × Int32} {x1 : Int32} {x2 : Int32} {x3 : Int32} {M : Mem} (hF : f4_put x1 x2 x3 M = some R) : Con layC ad z yX4_put cX4_put 7 (some .int) 4 M [.ref (ad 28), .int x1, .int x2, .int x3] (R.1) (some (.int R.2)) := con_of (own := RX4) (lv := [(0, .ref (ad 28)), (1, .int x1), (2, .int x2), (3, .int x3)]) (by decide +kernel) rfl (Nat.le_of_ble_eq_true rfl) rfl (fun X hz h => w4_put h hF)
def f4_kindOfLetter_2 (M : Mem) (fu : Nat) : Nat → Int32 → Int32 → Option (Int32)
  | 0 => fun _ _ => none
  | f + 1 => fun x0 x1 =>
    if (6 : Int32) ≤ x1 then ((some (-9 : Int32)))
    else ((rdT x1).bind fun v2 =>
    if v2 = x0 then ((some x1))
    else (nm (x1 + (1 : Int32)) fun v4 =>
    ((f4_kindOfLetter_2 M fu f) x0 v4)))
set_option maxHeartbeats 4000000 in
set_option maxRecDepth 10000 in
theorem w4_kindOfLetteri_2 {ad : Nat → Nat} {X : XX} {R : Int32} {M : Mem} {fu : Nat}  (h : Cx layC ad X cX4_kindOfLetter RX4 2 1 (some .int) M (some (.int R)))  : ∀ (f : Nat) (x0 : Int32) (x1 : Int32), f4_kindOfLetter_2 M fu f x0 x1 = some R → Wp layC ad X M 2 [(0, .int x0), (1, .int x1)] [] := by
  intro f
  induction f with
  | zero => intro x0 x1 hF; exact absurd hF (by simp [f4_kindOfLetter_2])
  | succ f ih =>
    intro x0 x1 hF
    rw [f4_kindOfLetter_2] at hF
    refine R_iload_n (pc := 2) h 1 rfl rfl dX4_kindOfLetter_2 ?_
    refine R_bipush (pc := 3) (v := 6) h (by decide) dX4_kindOfLetter_3 ?_
    refine R_icmp_ge (pc := 5) (tgt := 25) h dX4_kindOfLetter_5 (by decide) (fun c1 => ?_) (fun c1 => ?_)
    · have hF := itp c1 hF
      refine R_bipush (pc := 25) (v := (-9)) h (by decide) dX4_kindOfLetter_25 ?_
      cases hF
      exact R_ireturn (pc := 27) h rfl rfl rfl dX4_kindOfLetter_27
    · have hF := ifn c1 hF
      refine R_gets (pc := 8) h gsX4_308 dX4_kindOfLetter_8 ?_
      refine R_iload_n (pc := 11) h 1 rfl rfl dX4_kindOfLetter_11 ?_
      obtain ⟨v2, hv2, hF⟩ := bd hF
      refine R_tld (pc := 12) h hv2 dX4_kindOfLetter_12 ?_
      refine R_iload_n (pc := 13) h 0 rfl rfl dX4_kindOfLetter_13 ?_
      refine R_icmp_ne (pc := 14) (tgt := 19) h dX4_kindOfLetter_14 (by decide) (fun c3 => ?_) (fun c3 => ?_)
      · have hF := ifn c3 hF
        obtain ⟨v4, hv4, hF⟩ := nm_e2 hF
        refine R_iinc (pc := 19) (lv' := [(1, .int v4), (0, .int x0)]) h 1 rfl (by decide) hv4 (by decide) rfl dX4_kindOfLetter_19 ?_
        refine R_goto (pc := 22) (tgt := 2) h dX4_kindOfLetter_22 (by decide) ?_
        exact Wp_sub (nX := 0) (lv' := [(0, .int x0), (1, .int v4)]) [1, 0] rfl (ih _ _ hF)
      · have hF := itp c3 hF
        refine R_iload_n (pc := 17) h 1 rfl rfl dX4_kindOfLetter_17 ?_
        cases hF
        exact R_ireturn (pc := 18) h rfl rfl rfl dX4_kindOfLetter_18
theorem w4_kindOfLetter_2 {ad : Nat → Nat} {X : XX} {R : Int32} {M : Mem} {fu : Nat}  (h : Cx layC ad X cX4_kindOfLetter RX4 2 1 (some .int) M (some (.int R)))  {f : Nat} {x0 : Int32} {x1 : Int32} (hF : f4_kindOfLetter_2 M fu f x0 x1 = some R) : Wp layC ad X M 2 [(0, .int x0), (1, .int x1)] [] := w4_kindOfLetteri_2 h  f _ _ hF
def f4_kindOfLetter (M : Mem) (fu : Nat) (x0 : Int32) : Option (Int32) :=
    (f4_kindOfLetter_2 M fu fu x0 (0 : Int32))
set_option maxHeartbeats 4000000 in
set_option maxRecDepth 10000 in
theorem w4_kindOfLetter {ad : Nat → Nat} {X : XX} {R : Int32} {M : Mem} {fu : Nat} (h : Cx layC ad X cX4_kindOfLetter RX4 2 1 (some .int) M (some (.int R))) {x0 : Int32} (hF : f4_kindOfLetter M fu x0 = some R) : Wp layC ad X M 0 [(0, .int x0)] [] := by
  unfold f4_kindOfLetter at hF
  refine R_iconst (pc := 0) (v := 0) h (by decide) dX4_kindOfLetter_0 ?_
  refine R_istore_n (pc := 1) (lv' := [(1, .int (0 : Int32)), (0, .int x0)]) h rfl rfl (by decide) rfl dX4_kindOfLetter_1 ?_
  exact Wp_sub (nX := 0) (lv' := [(0, .int x0), (1, .int (0 : Int32))]) [1, 0] rfl (w4_kindOfLetter_2 h  (hF := hF))
theorem c4_kindOfLetter {ad : Nat → Nat} {z : ZZ} {R : Int32} {M : Mem} {fu : Nat} {x0 : Int32} (hF : f4_kindOfLetter M fu x0 = some R) : Con layC ad z yX4_kindOfLetter cX4_kindOfLetter 2 (some .int) 1 M [.int x0] (M) (some (.int R)) := con_of (own := RX4) (lv := [(0, .int x0)]) (by decide +kernel) rfl (Nat.le_of_ble_eq_true rfl) rfl (fun X hz h => w4_kindOfLetter h hF)
def f4_isSign (M : Mem) (fu : Nat) (x0 : Int32) (x1 : Int32) : Option (Int32) :=
    if x0 = 0 then ((f4_kindOfLetter M fu x1).bind fun r3 =>
    if r3 = (-9 : Int32) then ((some (0 : Int32)))
    else ((some (1 : Int32))))
    else (nm (x1 - (48 : Int32)) fun v5 =>
    if x0 = (3 : Int32) then (if v5 < (1 : Int32) then ((some (0 : Int32)))
    else (if (4 : Int32) < v5 then ((some (0 : Int32)))
    else ((some (1 : Int32)))))
    else (if v5 < 0 then ((some (0 : Int32)))
    else (if (9 : Int32) < v5 then ((some (0 : Int32)))
    else ((some (1 : Int32))))))
set_option maxHeartbeats 4000000 in
set_option maxRecDepth 10000 in
theorem w4_isSign {ad : Nat → Nat} {X : XX} {R : Int32} {M : Mem} {fu : Nat} (h : Cx layC ad X cX4_isSign RX4 3 2 (some .boolean) M (some (.int R))) {x0 : Int32} {x1 : Int32} (hF : f4_isSign M fu x0 x1 = some R) : Wp layC ad X M 0 [(0, .int x0), (1, .int x1)] [] := by
  unfold f4_isSign at hF
  refine R_iload_n (pc := 0) h 0 rfl rfl dX4_isSign_0 ?_
  refine R_if_ne (pc := 1) (tgt := 19) h dX4_isSign_1 (by decide) (fun c1 => ?_) (fun c1 => ?_)
  · have hF := ifn c1 hF
    refine R_iload_n (pc := 19) h 1 rfl rfl dX4_isSign_19 ?_
    refine R_bipush (pc := 20) (v := 48) h (by decide) dX4_isSign_20 ?_
    refine R_isub (pc := 22) h dX4_isSign_22 ?_
    obtain ⟨v5, hv5, hF⟩ := nm_e2 hF
    refine R_istore_n (pc := 23) (lv' := [(2, .int v5), (0, .int x0), (1, .int x1)]) h hv5 rfl (by decide) rfl dX4_isSign_23 ?_
    refine R_iload_n (pc := 24) h 1 rfl rfl dX4_isSign_24 ?_
    refine R_iconst (pc := 25) (v := 3) h (by decide) dX4_isSign_25 ?_
    refine R_icmp_ne (pc := 26) (tgt := 47) h dX4_isSign_26 (by decide) (fun c6 => ?_) (fun c6 => ?_)
    · have hF := ifn c6 hF
      refine R_iload_n (pc := 47) h 0 rfl rfl dX4_isSign_47 ?_
      refine R_if_lt (pc := 48) (tgt := 61) h dX4_isSign_48 (by decide) (fun c9 => ?_) (fun c9 => ?_)
      · have hF := itp c9 hF
        refine R_iconst (pc := 61) (v := 0) h (by decide) dX4_isSign_61 ?_
        cases hF
        exact R_zreturn (pc := 62) h rfl zr0 rfl rfl dX4_isSign_62
      · have hF := ifn c9 hF
        refine R_iload_n (pc := 51) h 0 rfl rfl dX4_isSign_51 ?_
        refine R_bipush (pc := 52) (v := 9) h (by decide) dX4_isSign_52 ?_
        refine R_icmp_gt (pc := 54) (tgt := 61) h dX4_isSign_54 (by decide) (fun c10 => ?_) (fun c10 => ?_)
        · have hF := itp c10 hF
          refine R_iconst (pc := 61) (v := 0) h (by decide) dX4_isSign_61 ?_
          cases hF
          exact R_zreturn (pc := 62) h rfl zr0 rfl rfl dX4_isSign_62
        · have hF := ifn c10 hF
          refine R_iconst (pc := 57) (v := 1) h (by decide) dX4_isSign_57 ?_
          refine R_goto (pc := 58) (tgt := 62) h dX4_isSign_58 (by decide) ?_
          cases hF
          exact R_zreturn (pc := 62) h rfl zr1 rfl rfl dX4_isSign_62
    · have hF := itp c6 hF
      refine R_iload_n (pc := 29) h 0 rfl rfl dX4_isSign_29 ?_
      refine R_iconst (pc := 30) (v := 1) h (by decide) dX4_isSign_30 ?_
      refine R_icmp_lt (pc := 31) (tgt := 43) h dX4_isSign_31 (by decide) (fun c7 => ?_) (fun c7 => ?_)
      · have hF := itp c7 hF
        refine R_iconst (pc := 43) (v := 0) h (by decide) dX4_isSign_43 ?_
        refine R_goto (pc := 44) (tgt := 62) h dX4_isSign_44 (by decide) ?_
        cases hF
        exact R_zreturn (pc := 62) h rfl zr0 rfl rfl dX4_isSign_62
      · have hF := ifn c7 hF
        refine R_iload_n (pc := 34) h 0 rfl rfl dX4_isSign_34 ?_
        refine R_iconst (pc := 35) (v := 4) h (by decide) dX4_isSign_35 ?_
        refine R_icmp_gt (pc := 36) (tgt := 43) h dX4_isSign_36 (by decide) (fun c8 => ?_) (fun c8 => ?_)
        · have hF := itp c8 hF
          refine R_iconst (pc := 43) (v := 0) h (by decide) dX4_isSign_43 ?_
          refine R_goto (pc := 44) (tgt := 62) h dX4_isSign_44 (by decide) ?_
          cases hF
          exact R_zreturn (pc := 62) h rfl zr0 rfl rfl dX4_isSign_62
        · have hF := ifn c8 hF
          refine R_iconst (pc := 39) (v := 1) h (by decide) dX4_isSign_39 ?_
          refine R_goto (pc := 40) (tgt := 62) h dX4_isSign_40 (by decide) ?_
          cases hF
          exact R_zreturn (pc := 62) h rfl zr1 rfl rfl dX4_isSign_62
  · have hF := itp c1 hF
    refine R_iload_n (pc := 4) h 1 rfl rfl dX4_isSign_4 ?_
    obtain ⟨r3, hc2, hF⟩ := bd hF
    refine R_callS (pc := 5) (st := []) h [.int x1] csX4_314 (c4_kindOfLetter (ad := ad) (z := X.1) hc2) rfl rfl (by decide) (by decide) (Nat.le_of_ble_eq_true rfl) dX4_isSign_5 (st1 := [.int r3]) rfl ?_
    refine R_bipush (pc := 8) (v := (-9)) h (by decide) dX4_isSign_8 ?_
    refine R_icmp_eq (pc := 10) (tgt := 17) h dX4_isSign_10 (by decide) (fun c4 => ?_) (fun c4 => ?_)
    · have hF := itp c4 hF
      refine R_iconst (pc := 17) (v := 0) h (by decide) dX4_isSign_17 ?_
      cases hF
      exact R_zreturn (pc := 18) h rfl zr0 rfl rfl dX4_isSign_18
    · have hF := ifn c4 hF
      refine R_iconst (pc := 13) (v := 1) h (by decide) dX4_isSign_13 ?_
      refine R_goto (pc := 14) (tgt := 18) h dX4_isSign_14 (by decide) ?_
      cases hF
      exact R_zreturn (pc := 18) h rfl zr1 rfl rfl dX4_isSign_18
theorem c4_isSign {ad : Nat → Nat} {z : ZZ} {R : Int32} {M : Mem} {fu : Nat} {x0 : Int32} {x1 : Int32} (hF : f4_isSign M fu x0 x1 = some R) : Con layC ad z yX4_isSign cX4_isSign 3 (some .boolean) 2 M [.int x0, .int x1] (M) (some (.int R)) := con_of (own := RX4) (lv := [(0, .int x0), (1, .int x1)]) (by decide +kernel) rfl (Nat.le_of_ble_eq_true rfl) rfl (fun X hz h => w4_isSign h hF)
def f4_firstFault_32 (M : Mem) (fu : Nat) (k6 : Nat → Int32 → Int32 → Int32 → Option (Int32)) (px0 : Nat) (x1 : Int32) (x2 : Int32) (x3 : Int32) (x4 : Int32) : Option (Int32) :=
    if (8 : Int32) ≤ x1 then ((some x3))
    else ((f4_isSign M fu x2 x4).bind fun r3 =>
    if r3 = 0 then ((some x3))
    else (nm (x2 + (1 : Int32)) fun v5 =>
    if v5 = (5 : Int32) then (nm (x1 + (1 : Int32)) fun v7 =>
    nm (x3 + (1 : Int32)) fun v8 =>
    (k6 px0 v7 (0 : Int32) v8))
    else (nm (x3 + (1 : Int32)) fun v9 =>
    (k6 px0 x1 v5 v9))))
set_option maxHeartbeats 4000000 in
set_option maxRecDepth 10000 in
theorem w4_firstFault_32 {ad : Nat → Nat} {X : XX} {R : Int32} {M : Mem} {fu : Nat} {k6 : Nat → Int32 → Int32 → Int32 → Option (Int32)} (h : Cx layC ad X cX4_firstFault RX4 5 3 (some .int) M (some (.int R))) (hk6 : ∀ (px0 : Nat) (x1 : Int32) (x2 : Int32) (x3 : Int32), k6 px0 x1 x2 x3 = some R → Wp layC ad X M 6 [(0, .ref (ad px0)), (1, .int x1), (2, .int x2), (3, .int x3)] []) {px0 : Nat} {x1 : Int32} {x2 : Int32} {x3 : Int32} {x4 : Int32} (hF : f4_firstFault_32 M fu k6 px0 x1 x2 x3 x4 = some R) : Wp layC ad X M 32 [(0, .ref (ad px0)), (1, .int x1), (2, .int x2), (3, .int x3), (4, .int x4)] [] := by
  unfold f4_firstFault_32 at hF
  refine R_iload_n (pc := 32) h 1 rfl rfl dX4_firstFault_32 ?_
  refine R_bipush (pc := 33) (v := 8) h (by decide) dX4_firstFault_33 ?_
  refine R_icmp_ge (pc := 35) (tgt := 47) h dX4_firstFault_35 (by decide) (fun c1 => ?_) (fun c1 => ?_)
  · have hF := itp c1 hF
    refine R_iload_n (pc := 47) h 3 rfl rfl dX4_firstFault_47 ?_
    cases hF
    exact R_ireturn (pc := 48) h rfl rfl rfl dX4_firstFault_48
  · have hF := ifn c1 hF
    refine R_iload_n (pc := 38) h 2 rfl rfl dX4_firstFault_38 ?_
    refine R_iload (pc := 39) h 4 rfl dX4_firstFault_39 ?_
    obtain ⟨r3, hc2, hF⟩ := bd hF
    refine R_callS (pc := 41) (st := []) h [.int x2, .int x4] csX4_311 (c4_isSign (ad := ad) (z := X.1) hc2) rfl rfl (by decide) (by decide) (Nat.le_of_ble_eq_true rfl) dX4_firstFault_41 (st1 := [.int r3]) rfl ?_
    refine R_if_ne (pc := 44) (tgt := 49) h dX4_firstFault_44 (by decide) (fun c4 => ?_) (fun c4 => ?_)
    · have hF := ifn c4 hF
      obtain ⟨v5, hv5, hF⟩ := nm_e2 hF
      refine R_iinc (pc := 49) (lv' := [(2, .int v5), (0, .ref (ad px0)), (1, .int x1), (3, .int x3), (4, .int x4)]) h 2 rfl (by decide) hv5 (by decide) rfl dX4_firstFault_49 ?_
      refine R_iload_n (pc := 52) h 0 rfl rfl dX4_firstFault_52 ?_
      refine R_iconst (pc := 53) (v := 5) h (by decide) dX4_firstFault_53 ?_
      refine R_icmp_ne (pc := 54) (tgt := 62) h dX4_firstFault_54 (by decide) (fun c6 => ?_) (fun c6 => ?_)
      · have hF := ifn c6 hF
        obtain ⟨v9, hv9, hF⟩ := nm_e2 hF
        refine R_iinc (pc := 62) (lv' := [(3, .int v9), (2, .int v5), (0, .ref (ad px0)), (1, .int x1), (4, .int x4)]) h 3 rfl (by decide) hv9 (by decide) rfl dX4_firstFault_62 ?_
        refine R_goto (pc := 65) (tgt := 6) h dX4_firstFault_65 (by decide) ?_
        exact Wp_sub (nX := 0) (lv' := [(0, .ref (ad px0)), (1, .int x1), (2, .int v5), (3, .int v9)]) [2, 3, 1, 0] rfl (hk6 _ _ _ _ hF)
      · have hF := itp c6 hF
        refine R_iconst (pc := 57) (v := 0) h (by decide) dX4_firstFault_57 ?_
        refine R_istore_n (pc := 58) (lv' := [(2, .int (0 : Int32)), (0, .ref (ad px0)), (1, .int x1), (3, .int x3), (4, .int x4)]) h rfl rfl (by decide) rfl dX4_firstFault_58 ?_
        obtain ⟨v7, hv7, hF⟩ := nm_e2 hF
        refine R_iinc (pc := 59) (lv' := [(1, .int v7), (2, .int (0 : Int32)), (0, .ref (ad px0)), (3, .int x3), (4, .int x4)]) h 2 rfl (by decide) hv7 (by decide) rfl dX4_firstFault_59 ?_
        obtain ⟨v8, hv8, hF⟩ := nm_e2 hF
        refine R_iinc (pc := 62) (lv' := [(3, .int v8), (1, .int v7), (2, .int (0 : Int32)), (0, .ref (ad px0)), (4, .int x4)]) h 3 rfl (by decide) hv8 (by decide) rfl dX4_firstFault_62 ?_
        refine R_goto (pc := 65) (tgt := 6) h dX4_firstFault_65 (by decide) ?_
        exact Wp_sub (nX := 0) (lv' := [(0, .ref (ad px0)), (1, .int v7), (2, .int (0 : Int32)), (3, .int v8)]) [3, 1, 2, 0] rfl (hk6 _ _ _ _ hF)
    · have hF := itp c4 hF
      refine R_iload_n (pc := 47) h 3 rfl rfl dX4_firstFault_47 ?_
      cases hF
      exact R_ireturn (pc := 48) h rfl rfl rfl dX4_firstFault_48
def f4_firstFault_6 (M : Mem) (fu : Nat) : Nat → Nat → Int32 → Int32 → Int32 → Option (Int32)
  | 0 => fun _ _ _ _ => none
  | f + 1 => fun px0 x1 x2 x3 =>
    (gd (decide (px0 < 10))).bind fun _ =>
    if (M.1 px0 0) ≤ x3 then (if 0 < x2 then ((some (M.1 px0 0)))
    else (if x1 = 0 then ((some (M.1 px0 0)))
    else ((some (-9 : Int32)))))
    else ((f0_cellAt M px0 x3).bind fun r6 =>
    if 0 < x2 then ((f4_firstFault_32 M fu (f4_firstFault_6 M fu f) px0 x1 x2 x3 r6))
    else (if r6 = (32 : Int32) then (nm (x3 + (1 : Int32)) fun v9 =>
    ((f4_firstFault_6 M fu f) px0 x1 x2 v9))
    else ((f4_firstFault_32 M fu (f4_firstFault_6 M fu f) px0 x1 x2 x3 r6))))
set_option maxHeartbeats 4000000 in
set_option maxRecDepth 10000 in
theorem w4_firstFaulti_6 {ad : Nat → Nat} {X : XX} {R : Int32} {M : Mem} {fu : Nat}  (h : Cx layC ad X cX4_firstFault RX4 5 3 (some .int) M (some (.int R)))  : ∀ (f : Nat) (px0 : Nat) (x1 : Int32) (x2 : Int32) (x3 : Int32), f4_firstFault_6 M fu f px0 x1 x2 x3 = some R → Wp layC ad X M 6 [(0, .ref (ad px0)), (1, .int x1), (2, .int x2), (3, .int x3)] [] := by
  intro f
  induction f with
  | zero => intro px0 x1 x2 x3 hF; exact absurd hF (by simp [f4_firstFault_6])
  | succ f ih =>
    intro px0 x1 x2 x3 hF
    rw [f4_firstFault_6] at hF
    refine R_iload_n (pc := 6) h 3 rfl rfl dX4_firstFault_6 ?_
    refine R_aload_n (pc := 7) h 0 rfl rfl dX4_firstFault_7 ?_
    obtain ⟨_, hg1, hF⟩ := bd hF
    have hg1 := of_decide_eq_true (gd_s hg1)
    refine R_getI (pc := 8) h flX4_75 (lyCells hg1) rfl dX4_firstFault_8 ?_
    refine R_icmp_ge (pc := 11) (tgt := 68) h dX4_firstFault_11 (by decide) (fun c2 => ?_) (fun c2 => ?_)
    · have hF := itp c2 hF
      refine R_iload_n (pc := 68) h 2 rfl rfl dX4_firstFault_68 ?_
      refine R_if_gt (pc := 69) (tgt := 76) h dX4_firstFault_69 (by decide) (fun c3 => ?_) (fun c3 => ?_)
      · have hF := itp c3 hF
        refine R_aload_n (pc := 76) h 0 rfl rfl dX4_firstFault_76 ?_
        refine R_getI (pc := 77) h flX4_75 (lyCells hg1) rfl dX4_firstFault_77 ?_
        refine R_goto (pc := 80) (tgt := 85) h dX4_firstFault_80 (by decide) ?_
        cases hF
        exact R_ireturn (pc := 85) h rfl rfl rfl dX4_firstFault_85
      · have hF := ifn c3 hF
        refine R_iload_n (pc := 72) h 1 rfl rfl dX4_firstFault_72 ?_
        refine R_if_ne (pc := 73) (tgt := 83) h dX4_firstFault_73 (by decide) (fun c4 => ?_) (fun c4 => ?_)
        · have hF := ifn c4 hF
          refine R_bipush (pc := 83) (v := (-9)) h (by decide) dX4_firstFault_83 ?_
          cases hF
          exact R_ireturn (pc := 85) h rfl rfl rfl dX4_firstFault_85
        · have hF := itp c4 hF
          refine R_aload_n (pc := 76) h 0 rfl rfl dX4_firstFault_76 ?_
          refine R_getI (pc := 77) h flX4_75 (lyCells hg1) rfl dX4_firstFault_77 ?_
          refine R_goto (pc := 80) (tgt := 85) h dX4_firstFault_80 (by decide) ?_
          cases hF
          exact R_ireturn (pc := 85) h rfl rfl rfl dX4_firstFault_85
    · have hF := ifn c2 hF
      refine R_aload_n (pc := 14) h 0 rfl rfl dX4_firstFault_14 ?_
      refine R_iload_n (pc := 15) h 3 rfl rfl dX4_firstFault_15 ?_
      obtain ⟨r6, hc5, hF⟩ := bd hF
      refine R_callV (pc := 16) (st := []) h [.int x3] cvX4_63 (c0_cellAt (ad := ad) (z := X.1) hc5) rfl rfl (lyCells hg1) (by decide) (by decide) (Nat.le_of_ble_eq_true rfl) dX4_firstFault_16 (st1 := [.int r6]) rfl ?_
      refine R_istore (pc := 19) (lv' := [(4, .int r6), (0, .ref (ad px0)), (1, .int x1), (2, .int x2), (3, .int x3)]) h rfl (by decide) rfl dX4_firstFault_19 ?_
      refine R_iload_n (pc := 21) h 3 rfl rfl dX4_firstFault_21 ?_
      refine R_if_gt (pc := 22) (tgt := 32) h dX4_firstFault_22 (by decide) (fun c7 => ?_) (fun c7 => ?_)
      · have hF := itp c7 hF
        exact Wp_sub (nX := 0) (lv' := [(0, .ref (ad px0)), (1, .int x1), (2, .int x2), (3, .int x3), (4, .int r6)]) [1, 2, 3, 4, 0] rfl (w4_firstFault_32 h (hk6 := fun a0 a1 a2 a3 hF => ih a0 a1 a2 a3 hF) (hF := hF))
      · have hF := ifn c7 hF
        refine R_iload (pc := 25) h 0 rfl dX4_firstFault_25 ?_
        refine R_bipush (pc := 27) (v := 32) h (by decide) dX4_firstFault_27 ?_
        refine R_icmp_eq (pc := 29) (tgt := 62) h dX4_firstFault_29 (by decide) (fun c8 => ?_) (fun c8 => ?_)
        · have hF := itp c8 hF
          obtain ⟨v9, hv9, hF⟩ := nm_e2 hF
          refine R_iinc (pc := 62) (lv' := [(3, .int v9), (4, .int r6), (0, .ref (ad px0)), (1, .int x1), (2, .int x2)]) h 4 rfl (by decide) hv9 (by decide) rfl dX4_firstFault_62 ?_
          refine R_goto (pc := 65) (tgt := 6) h dX4_firstFault_65 (by decide) ?_
          exact Wp_sub (nX := 0) (lv' := [(0, .ref (ad px0)), (1, .int x1), (2, .int x2), (3, .int v9)]) [2, 3, 4, 0] rfl (ih _ _ _ _ hF)
        · have hF := ifn c8 hF
          exact Wp_sub (nX := 0) (lv' := [(0, .ref (ad px0)), (1, .int x1), (2, .int x2), (3, .int x3), (4, .int r6)]) [1, 2, 3, 4, 0] rfl (w4_firstFault_32 h (hk6 := fun a0 a1 a2 a3 hF => ih a0 a1 a2 a3 hF) (hF := hF))
theorem w4_firstFault_6 {ad : Nat → Nat} {X : XX} {R : Int32} {M : Mem} {fu : Nat}  (h : Cx layC ad X cX4_firstFault RX4 5 3 (some .int) M (some (.int R)))  {f : Nat} {px0 : Nat} {x1 : Int32} {x2 : Int32} {x3 : Int32} (hF : f4_firstFault_6 M fu f px0 x1 x2 x3 = some R) : Wp layC ad X M 6 [(0, .ref (ad px0)), (1, .int x1), (2, .int x2), (3, .int x3)] [] := w4_firstFaulti_6 h  f _ _ _ _ hF
def f4_firstFault (M : Mem) (fu : Nat) (p0 : Nat) : Option (Int32) :=
    (f4_firstFault_6 M fu fu p0 (0 : Int32) (0 : Int32) (0 : Int32))
set_option maxHeartbeats 4000000 in
set_option maxRecDepth 10000 in
theorem w4_firstFault {ad : Nat → Nat} {X : XX} {R : Int32} {M : Mem} {fu : Nat} (h : Cx layC ad X cX4_firstFault RX4 5 3 (some .int) M (some (.int R))) {p0 : Nat} (hF : f4_firstFault M fu p0 = some R) : Wp layC ad X M 0 [(0, .ref (ad p0))] [] := by
  unfold f4_firstFault at hF
  refine R_iconst (pc := 0) (v := 0) h (by decide) dX4_firstFault_0 ?_
  refine R_istore_n (pc := 1) (lv' := [(1, .int (0 : Int32)), (0, .ref (ad p0))]) h rfl rfl (by decide) rfl dX4_firstFault_1 ?_
  refine R_iconst (pc := 2) (v := 0) h (by decide) dX4_firstFault_2 ?_
  refine R_istore_n (pc := 3) (lv' := [(2, .int (0 : Int32)), (1, .int (0 : Int32)), (0, .ref (ad p0))]) h rfl rfl (by decide) rfl dX4_firstFault_3 ?_
  refine R_iconst (pc := 4) (v := 0) h (by decide) dX4_firstFault_4 ?_
  refine R_istore_n (pc := 5) (lv' := [(3, .int (0 : Int32)), (2, .int (0 : Int32)), (1, .int (0 : Int32)), (0, .ref (ad p0))]) h rfl rfl (by decide) rfl dX4_firstFault_5 ?_
  exact Wp_sub (nX := 0) (lv' := [(0, .ref (ad p0)), (1, .int (0 : Int32)), (2, .int (0 : Int32)), (3, .int (0 : Int32))]) [3, 2, 1, 0] rfl (w4_firstFault_6 h  (hF := hF))
theorem c4_firstFault {ad : Nat → Nat} {z : ZZ} {R : Int32} {M : Mem} {fu : Nat} {p0 : Nat} (hF : f4_firstFault M fu p0 = some R) : Con layC ad z yX4_firstFault cX4_firstFault 5 (some .int) 3 M [.ref (ad p0)] (M) (some (.int R)) := con_of (own := RX4) (lv := [(0, .ref (ad p0))]) (by decide +kernel) rfl (Nat.le_of_ble_eq_true rfl) rfl (fun X hz h => w4_firstFault h hF)
def f4_fault (fu : Nat) (x1 : Int32) (M : Mem) : Option (Mem × Int32) :=
    (f4_textAt x1).bind fun r2 =>
    oc r2 ((f4_refuseMissing_N M).bind fun ⟨M5, r6⟩ =>
    (some (M5, r6)))
    fun q3 => (f4_refuseMissing q3 M).bind fun ⟨M8, r9⟩ =>
    if r9 = 0 then ((f4_firstFault M8 fu q3).bind fun r12 =>
    (some (M8, r12)))
    else ((some (M8, r9)))
set_option maxHeartbeats 4000000 in
set_option maxRecDepth 10000 in
theorem w4_fault {ad : Nat → Nat} {X : XX} {R : Mem × Int32} {fu : Nat} (h : Cx layC ad X cX4_fault RX4 4 4 (some .int) (R.1) (some (.int R.2))) {x1 : Int32} {M : Mem} (hF : f4_fault fu x1 M = some R) : Wp layC ad X M 0 [(0, .ref (ad 28)), (1, .int x1)] [] := by
  unfold f4_fault at hF
  refine R_aload_n (pc := 0) h 0 rfl rfl dX4_fault_0 ?_
  refine R_iload_n (pc := 1) h 1 rfl rfl dX4_fault_1 ?_
  obtain ⟨r2, hc1, hF⟩ := bd hF
  rcases r2 with _ | q3
  · have hF := oc_n hF
    refine R_callV (pc := 2) (st := []) h [.int x1] cvX4_98 (c4_textAt (ad := ad) (z := X.1) (M := M) hc1) rfl rfl lc_28 (by decide) (by decide) (Nat.le_of_ble_eq_true rfl) dX4_fault_2 (st1 := [.null]) rfl ?_
    refine R_astore_nN (pc := 5) (lv' := [(2, .null), (0, .ref (ad 28)), (1, .int x1)]) h rfl (by decide) rfl dX4_fault_5 ?_
    refine R_aload_n (pc := 6) h 1 rfl rfl dX4_fault_6 ?_
    refine R_aload_nN (pc := 7) h 0 rfl rfl dX4_fault_7 ?_
    obtain ⟨⟨M5, r6⟩, hc4, hF⟩ := bd hF
    refine R_callV (pc := 8) (st := []) h [.null] cvX4_71 (c4_refuseMissing_N (ad := ad) (z := X.1) hc4) rfl rfl lc_28 (by decide) (by decide) (Nat.le_of_ble_eq_true rfl) dX4_fault_8 (st1 := [.int r6]) rfl ?_
    refine R_istore_n (pc := 11) (lv' := [(3, .int r6), (2, .null), (0, .ref (ad 28)), (1, .int x1)]) h rfl rfl (by decide) rfl dX4_fault_11 ?_
    refine R_aload_nN (pc := 12) h 1 rfl rfl dX4_fault_12 ?_
    refine R_ifnullN (pc := 13) (tgt := 20) h dX4_fault_13 (by decide) ?_
    refine R_iload_n (pc := 20) h 0 rfl rfl dX4_fault_20 ?_
    cases hF
    exact R_ireturn (pc := 21) h rfl rfl rfl dX4_fault_21
  · have hF := oc_s hF
    refine R_callV (pc := 2) (st := []) h [.int x1] cvX4_98 (c4_textAt (ad := ad) (z := X.1) (M := M) hc1) rfl rfl lc_28 (by decide) (by decide) (Nat.le_of_ble_eq_true rfl) dX4_fault_2 (st1 := [.ref (ad q3)]) rfl ?_
    refine R_astore_n (pc := 5) (lv' := [(2, .ref (ad q3)), (0, .ref (ad 28)), (1, .int x1)]) h rfl rfl (by decide) rfl dX4_fault_5 ?_
    refine R_aload_n (pc := 6) h 1 rfl rfl dX4_fault_6 ?_
    refine R_aload_n (pc := 7) h 0 rfl rfl dX4_fault_7 ?_
    obtain ⟨⟨M8, r9⟩, hc7, hF⟩ := bd hF
    refine R_callV (pc := 8) (st := []) h [.ref (ad q3)] cvX4_71 (c4_refuseMissing (ad := ad) (z := X.1) hc7) rfl rfl lc_28 (by decide) (by decide) (Nat.le_of_ble_eq_true rfl) dX4_fault_8 (st1 := [.int r9]) rfl ?_
    refine R_istore_n (pc := 11) (lv' := [(3, .int r9), (2, .ref (ad q3)), (0, .ref (ad 28)), (1, .int x1)]) h rfl rfl (by decide) rfl dX4_fault_11 ?_
    refine R_aload_n (pc := 12) h 1 rfl rfl dX4_fault_12 ?_
    refine R_ifnull (pc := 13) h dX4_fault_13 ?_
    refine R_iload_n (pc := 16) h 0 rfl rfl dX4_fault_16 ?_
    refine R_if_eq (pc := 17) (tgt := 22) h dX4_fault_17 (by decide) (fun c10 => ?_) (fun c10 => ?_)
    · have hF := itp c10 hF
      refine R_aload_n (pc := 22) h 1 rfl rfl dX4_fault_22 ?_
      obtain ⟨r12, hc11, hF⟩ := bd hF
      refine R_callS (pc := 23) (st := []) h [.ref (ad q3)] csX4_101 (c4_firstFault (ad := ad) (z := X.1) hc11) rfl rfl (by decide) (by decide) (Nat.le_of_ble_eq_true rfl) dX4_fault_23 (st1 := [.int r12]) rfl ?_
      cases hF
      exact R_ireturn (pc := 26) h rfl rfl rfl dX4_fault_26
    · have hF := ifn c10 hF
      refine R_iload_n (pc := 20) h 0 rfl rfl dX4_fault_20 ?_
      cases hF
      exact R_ireturn (pc := 21) h rfl rfl rfl dX4_fault_21
theorem c4_fault {ad : Nat → Nat} {z : ZZ} {R : Mem × Int32} {fu : Nat} {x1 : Int32} {M : Mem} (hF : f4_fault fu x1 M = some R) : Con layC ad z yX4_fault cX4_fault 4 (some .int) 4 M [.ref (ad 28), .int x1] (R.1) (some (.int R.2)) := con_of (own := RX4) (lv := [(0, .ref (ad 28)), (1, .int x1)]) (by decide +kernel) rfl (Nat.le_of_ble_eq_true rfl) rfl (fun X hz h => w4_fault h hF)
def f2_takeSign (fu : Nat) (x1 : Int32) (x2 : Int32) (M : Mem) : Option (Mem) :=
    if (M.1 35 0) < 0 then ((some M))
    else (if (M.1 35 0) < (8 : Int32) then (if x1 = 0 then ((f4_kindOfLetter M fu x2).bind fun r5 =>
    (wr M 36 8 (M.1 35 0) r5).bind fun M6 =>
    (some M6))
    else if x1 = 1 then ((wr M 37 8 (M.1 35 0) (x2 - (48 : Int32))).bind fun M8 =>
    (some M8))
    else if x1 = 2 then ((wr M 38 8 (M.1 35 0) (x2 - (48 : Int32))).bind fun M10 =>
    (some M10))
    else if x1 = 3 then ((wr M 39 8 (M.1 35 0) (x2 - (48 : Int32))).bind fun M12 =>
    (some M12))
    else ((wr M 40 8 (M.1 35 0) (x2 - (48 : Int32))).bind fun M13 =>
    (some M13)))
    else ((some M)))
set_option maxHeartbeats 4000000 in
set_option maxRecDepth 10000 in
theorem w2_takeSign {ad : Nat → Nat} {X : XX} {R : Mem} {fu : Nat} (h : Cx layC ad X cX2_takeSign RX2 3 2 none (R) none) {x1 : Int32} {x2 : Int32} {M : Mem} (hF : f2_takeSign fu x1 x2 M = some R) : Wp layC ad X M 0 [(0, .ref (ad 35)), (1, .int x1), (2, .int x2)] [] := by
  unfold f2_takeSign at hF
  refine R_aload_n (pc := 0) h 0 rfl rfl dX2_takeSign_0 ?_
  refine R_getI (pc := 1) h flX2_9 lc_35 rfl dX2_takeSign_1 ?_
  refine R_if_lt (pc := 4) (tgt := 16) h dX2_takeSign_4 (by decide) (fun c1 => ?_) (fun c1 => ?_)
  · have hF := itp c1 hF
    cases hF
    exact R_return (pc := 16) h rfl rfl rfl dX2_takeSign_16
  · have hF := ifn c1 hF
    refine R_aload_n (pc := 7) h 0 rfl rfl dX2_takeSign_7 ?_
    refine R_getI (pc := 8) h flX2_9 lc_35 rfl dX2_takeSign_8 ?_
    refine R_bipush (pc := 11) (v := 8) h (by decide) dX2_takeSign_11 ?_
    refine R_icmp_lt (pc := 13) (tgt := 17) h dX2_takeSign_13 (by decide) (fun c2 => ?_) (fun c2 => ?_)
    · have hF := itp c2 hF
      refine R_iload_n (pc := 17) h 1 rfl rfl dX2_takeSign_17 ?_
      by_cases c3 : x1 = 0
      · have hF := itp c3 hF
        refine R_tableIn (pc := 18) (off := 30) (tgt := 48) h dX2_takeSign_18 (by rw [c3]; decide +kernel) (by rw [c3]; decide +kernel) (by rw [c3]; decide +kernel) (by decide) ?_
        refine R_aload_n (pc := 48) h 0 rfl rfl dX2_takeSign_48 ?_
        refine R_getR (pc := 49) (q1 := 36) h flX2_15 lc_35 rfl dX2_takeSign_49 ?_
        refine R_aload_n (pc := 52) h 0 rfl rfl dX2_takeSign_52 ?_
        refine R_getI (pc := 53) h flX2_9 lc_35 rfl dX2_takeSign_53 ?_
        refine R_iload_n (pc := 56) h 2 rfl rfl dX2_takeSign_56 ?_
        obtain ⟨r5, hc4, hF⟩ := bd hF
        refine R_callN (pc := 57) (st := [.int (M.1 35 0), .ref (ad 36)]) h [.int x2] cnX2_75 (c4_kindOfLetter (ad := ad) (z := X.1) hc4) rfl rfl (by decide) (by decide) (Nat.le_of_ble_eq_true rfl) dX2_takeSign_57 (st1 := [.int r5, .int (M.1 35 0), .ref (ad 36)]) rfl ?_
        obtain ⟨M6, hM6, hF⟩ := bd hF
        refine R_iast (pc := 60) h hM6 lc_36 dX2_takeSign_60 ?_
        refine R_goto (pc := 61) (tgt := 125) h dX2_takeSign_61 (by decide) ?_
        cases hF
        exact R_return (pc := 125) h rfl rfl rfl dX2_takeSign_125
      have hF := ifn c3 hF
      by_cases c7 : x1 = 1
      · have hF := itp c7 hF
        refine R_tableIn (pc := 18) (off := 46) (tgt := 64) h dX2_takeSign_18 (by rw [c7]; decide +kernel) (by rw [c7]; decide +kernel) (by rw [c7]; decide +kernel) (by decide) ?_
        refine R_aload_n (pc := 64) h 0 rfl rfl dX2_takeSign_64 ?_
        refine R_getR (pc := 65) (q1 := 37) h flX2_19 lc_35 rfl dX2_takeSign_65 ?_
        refine R_aload_n (pc := 68) h 0 rfl rfl dX2_takeSign_68 ?_
        refine R_getI (pc := 69) h flX2_9 lc_35 rfl dX2_takeSign_69 ?_
        refine R_iload_n (pc := 72) h 2 rfl rfl dX2_takeSign_72 ?_
        refine R_bipush (pc := 73) (v := 48) h (by decide) dX2_takeSign_73 ?_
        refine R_isub (pc := 75) h dX2_takeSign_75 ?_
        obtain ⟨M8, hM8, hF⟩ := bd hF
        refine R_iast (pc := 76) h hM8 lc_37 dX2_takeSign_76 ?_
        refine R_goto (pc := 77) (tgt := 125) h dX2_takeSign_77 (by decide) ?_
        cases hF
        exact R_return (pc := 125) h rfl rfl rfl dX2_takeSign_125
      have hF := ifn c7 hF
      by_cases c9 : x1 = 2
      · have hF := itp c9 hF
        refine R_tableIn (pc := 18) (off := 62) (tgt := 80) h dX2_takeSign_18 (by rw [c9]; decide +kernel) (by rw [c9]; decide +kernel) (by rw [c9]; decide +kernel) (by decide) ?_
        refine R_aload_n (pc := 80) h 0 rfl rfl dX2_takeSign_80 ?_
        refine R_getR (pc := 81) (q1 := 38) h flX2_22 lc_35 rfl dX2_takeSign_81 ?_
        refine R_aload_n (pc := 84) h 0 rfl rfl dX2_takeSign_84 ?_
        refine R_getI (pc := 85) h flX2_9 lc_35 rfl dX2_takeSign_85 ?_
        refine R_iload_n (pc := 88) h 2 rfl rfl dX2_takeSign_88 ?_
        refine R_bipush (pc := 89) (v := 48) h (by decide) dX2_takeSign_89 ?_
        refine R_isub (pc := 91) h dX2_takeSign_91 ?_
        obtain ⟨M10, hM10, hF⟩ := bd hF
        refine R_iast (pc := 92) h hM10 lc_38 dX2_takeSign_92 ?_
        refine R_goto (pc := 93) (tgt := 125) h dX2_takeSign_93 (by decide) ?_
        cases hF
        exact R_return (pc := 125) h rfl rfl rfl dX2_takeSign_125
      have hF := ifn c9 hF
      by_cases c11 : x1 = 3
      · have hF := itp c11 hF
        refine R_tableIn (pc := 18) (off := 78) (tgt := 96) h dX2_takeSign_18 (by rw [c11]; decide +kernel) (by rw [c11]; decide +kernel) (by rw [c11]; decide +kernel) (by decide) ?_
        refine R_aload_n (pc := 96) h 0 rfl rfl dX2_takeSign_96 ?_
        refine R_getR (pc := 97) (q1 := 39) h flX2_25 lc_35 rfl dX2_takeSign_97 ?_
        refine R_aload_n (pc := 100) h 0 rfl rfl dX2_takeSign_100 ?_
        refine R_getI (pc := 101) h flX2_9 lc_35 rfl dX2_takeSign_101 ?_
        refine R_iload_n (pc := 104) h 2 rfl rfl dX2_takeSign_104 ?_
        refine R_bipush (pc := 105) (v := 48) h (by decide) dX2_takeSign_105 ?_
        refine R_isub (pc := 107) h dX2_takeSign_107 ?_
        obtain ⟨M12, hM12, hF⟩ := bd hF
        refine R_iast (pc := 108) h hM12 lc_39 dX2_takeSign_108 ?_
        refine R_goto (pc := 109) (tgt := 125) h dX2_takeSign_109 (by decide) ?_
        cases hF
        exact R_return (pc := 125) h rfl rfl rfl dX2_takeSign_125
      have hF := ifn c11 hF
      refine R_tableOut (pc := 18) (tgt := 112) h dX2_takeSign_18 (by have e0 := lv_neT c3 (a := 0) (by decide); have e1 := lv_neT c7 (a := 1) (by decide); have e2 := lv_neT c9 (a := 2) (by decide); have e3 := lv_neT c11 (a := 3) (by decide); omega) (by decide) ?_
      refine R_aload_n (pc := 112) h 0 rfl rfl dX2_takeSign_112 ?_
      refine R_getR (pc := 113) (q1 := 40) h flX2_28 lc_35 rfl dX2_takeSign_113 ?_
      refine R_aload_n (pc := 116) h 0 rfl rfl dX2_takeSign_116 ?_
      refine R_getI (pc := 117) h flX2_9 lc_35 rfl dX2_takeSign_117 ?_
      refine R_iload_n (pc := 120) h 2 rfl rfl dX2_takeSign_120 ?_
      refine R_bipush (pc := 121) (v := 48) h (by decide) dX2_takeSign_121 ?_
      refine R_isub (pc := 123) h dX2_takeSign_123 ?_
      obtain ⟨M13, hM13, hF⟩ := bd hF
      refine R_iast (pc := 124) h hM13 lc_40 dX2_takeSign_124 ?_
      cases hF
      exact R_return (pc := 125) h rfl rfl rfl dX2_takeSign_125
    · have hF := ifn c2 hF
      cases hF
      exact R_return (pc := 16) h rfl rfl rfl dX2_takeSign_16
theorem c2_takeSign {ad : Nat → Nat} {z : ZZ} {R : Mem} {fu : Nat} {x1 : Int32} {x2 : Int32} {M : Mem} (hF : f2_takeSign fu x1 x2 M = some R) : Con layC ad z yX2_takeSign cX2_takeSign 3 none 2 M [.ref (ad 35), .int x1, .int x2] (R) none := con_of (own := RX2) (lv := [(0, .ref (ad 35)), (1, .int x1), (2, .int x2)]) (by decide +kernel) rfl (Nat.le_of_ble_eq_true rfl) rfl (fun X hz h => w2_takeSign h hF)
def f2_has (M : Mem) (x1 : Int32) : Option (Int32) :=
    if x1 < 0 then ((some (0 : Int32)))
    else (if (M.1 35 0) ≤ x1 then ((some (0 : Int32)))
    else ((some (1 : Int32))))
set_option maxHeartbeats 4000000 in
set_option maxRecDepth 10000 in
theorem w2_has {ad : Nat → Nat} {X : XX} {R : Int32} {M : Mem} (h : Cx layC ad X cX2_has RX2 2 1 (some .boolean) M (some (.int R))) {x1 : Int32} (hF : f2_has M x1 = some R) : Wp layC ad X M 0 [(0, .ref (ad 35)), (1, .int x1)] [] := by
  unfold f2_has at hF
  refine R_iload_n (pc := 0) h 1 rfl rfl dX2_has_0 ?_
  refine R_if_lt (pc := 1) (tgt := 16) h dX2_has_1 (by decide) (fun c1 => ?_) (fun c1 => ?_)
  · have hF := itp c1 hF
    refine R_iconst (pc := 16) (v := 0) h (by decide) dX2_has_16 ?_
    cases hF
    exact R_zreturn (pc := 17) h rfl zr0 rfl rfl dX2_has_17
  · have hF := ifn c1 hF
    refine R_iload_n (pc := 4) h 1 rfl rfl dX2_has_4 ?_
    refine R_aload_n (pc := 5) h 0 rfl rfl dX2_has_5 ?_
    refine R_getI (pc := 6) h flX2_9 lc_35 rfl dX2_has_6 ?_
    refine R_icmp_ge (pc := 9) (tgt := 16) h dX2_has_9 (by decide) (fun c2 => ?_) (fun c2 => ?_)
    · have hF := itp c2 hF
      refine R_iconst (pc := 16) (v := 0) h (by decide) dX2_has_16 ?_
      cases hF
      exact R_zreturn (pc := 17) h rfl zr0 rfl rfl dX2_has_17
    · have hF := ifn c2 hF
      refine R_iconst (pc := 12) (v := 1) h (by decide) dX2_has_12 ?_
      refine R_goto (pc := 13) (tgt := 17) h dX2_has_13 (by decide) ?_
      cases hF
      exact R_zreturn (pc := 17) h rfl zr1 rfl rfl dX2_has_17
theorem c2_has {ad : Nat → Nat} {z : ZZ} {R : Int32} {M : Mem} {x1 : Int32} (hF : f2_has M x1 = some R) : Con layC ad z yX2_has cX2_has 2 (some .boolean) 1 M [.ref (ad 35), .int x1] (M) (some (.int R)) := con_of (own := RX2) (lv := [(0, .ref (ad 35)), (1, .int x1)]) (by decide +kernel) rfl (Nat.le_of_ble_eq_true rfl) rfl (fun X hz h => w2_has h hF)
def f2_valueAs_30 (M : Mem) (x1 : Int32) (x2 : Int32) (x3 : Int32) (s0 : Int32) : Option (Int32) :=
    if x2 = 1 then ((some (x3 - (10 : Int32))))
    else if x2 = 2 then ((some s0))
    else if x2 = 3 then ((rd M 39 8 x1).bind fun v4 =>
    (some (x3 * v4)))
    else if x2 = 4 then ((some ((2 : Int32) * s0)))
    else if x2 = 5 then ((rd M 39 8 x1).bind fun v7 =>
    (some ((x3 - (10 : Int32)) - v7)))
    else ((some x3))
set_option maxHeartbeats 4000000 in
set_option maxRecDepth 10000 in
theorem w2_valueAs_30 {ad : Nat → Nat} {X : XX} {R : Int32} {M : Mem}  (h : Cx layC ad X cX2_valueAs RX2 5 2 (some .int) M (some (.int R)))  {x1 : Int32} {x2 : Int32} {x3 : Int32} {s0 : Int32} (hF : f2_valueAs_30 M x1 x2 x3 s0 = some R) : Wp layC ad X M 30 [(0, .ref (ad 35)), (1, .int x1), (2, .int x2), (3, .int x3)] [.int s0] := by
  unfold f2_valueAs_30 at hF
  refine R_istore (pc := 30) (lv' := [(4, .int s0), (0, .ref (ad 35)), (1, .int x1), (2, .int x2), (3, .int x3)]) h rfl (by decide) rfl dX2_valueAs_30 ?_
  refine R_iload_n (pc := 32) h 3 rfl rfl dX2_valueAs_32 ?_
  by_cases c1 : x2 = 1
  · have hF := itp c1 hF
    refine R_tableIn (pc := 33) (off := 35) (tgt := 68) h dX2_valueAs_33 (by rw [c1]; decide +kernel) (by rw [c1]; decide +kernel) (by rw [c1]; decide +kernel) (by decide) ?_
    refine R_iload_n (pc := 68) h 4 rfl rfl dX2_valueAs_68 ?_
    refine R_bipush (pc := 69) (v := 10) h (by decide) dX2_valueAs_69 ?_
    refine R_isub (pc := 71) h dX2_valueAs_71 ?_
    cases hF
    exact R_ireturn (pc := 72) h rfl rfl rfl dX2_valueAs_72
  have hF := ifn c1 hF
  by_cases c2 : x2 = 2
  · have hF := itp c2 hF
    refine R_tableIn (pc := 33) (off := 40) (tgt := 73) h dX2_valueAs_33 (by rw [c2]; decide +kernel) (by rw [c2]; decide +kernel) (by rw [c2]; decide +kernel) (by decide) ?_
    refine R_iload (pc := 73) h 0 rfl dX2_valueAs_73 ?_
    cases hF
    exact R_ireturn (pc := 75) h rfl rfl rfl dX2_valueAs_75
  have hF := ifn c2 hF
  by_cases c3 : x2 = 3
  · have hF := itp c3 hF
    refine R_tableIn (pc := 33) (off := 43) (tgt := 76) h dX2_valueAs_33 (by rw [c3]; decide +kernel) (by rw [c3]; decide +kernel) (by rw [c3]; decide +kernel) (by decide) ?_
    refine R_iload_n (pc := 76) h 4 rfl rfl dX2_valueAs_76 ?_
    refine R_aload_n (pc := 77) h 1 rfl rfl dX2_valueAs_77 ?_
    refine R_getR (pc := 78) (q1 := 39) h flX2_25 lc_35 rfl dX2_valueAs_78 ?_
    refine R_iload_n (pc := 81) h 2 rfl rfl dX2_valueAs_81 ?_
    obtain ⟨v4, hv4, hF⟩ := bd hF
    refine R_iald (pc := 82) h hv4 lc_39 dX2_valueAs_82 ?_
    refine R_imul (pc := 83) h dX2_valueAs_83 ?_
    cases hF
    exact R_ireturn (pc := 84) h rfl rfl rfl dX2_valueAs_84
  have hF := ifn c3 hF
  by_cases c5 : x2 = 4
  · have hF := itp c5 hF
    refine R_tableIn (pc := 33) (off := 52) (tgt := 85) h dX2_valueAs_33 (by rw [c5]; decide +kernel) (by rw [c5]; decide +kernel) (by rw [c5]; decide +kernel) (by decide) ?_
    refine R_iconst (pc := 85) (v := 2) h (by decide) dX2_valueAs_85 ?_
    refine R_iload (pc := 86) h 0 rfl dX2_valueAs_86 ?_
    refine R_imul (pc := 88) h dX2_valueAs_88 ?_
    cases hF
    exact R_ireturn (pc := 89) h rfl rfl rfl dX2_valueAs_89
  have hF := ifn c5 hF
  by_cases c6 : x2 = 5
  · have hF := itp c6 hF
    refine R_tableIn (pc := 33) (off := 57) (tgt := 90) h dX2_valueAs_33 (by rw [c6]; decide +kernel) (by rw [c6]; decide +kernel) (by rw [c6]; decide +kernel) (by decide) ?_
    refine R_iload_n (pc := 90) h 4 rfl rfl dX2_valueAs_90 ?_
    refine R_bipush (pc := 91) (v := 10) h (by decide) dX2_valueAs_91 ?_
    refine R_isub (pc := 93) h dX2_valueAs_93 ?_
    refine R_aload_n (pc := 94) h 1 rfl rfl dX2_valueAs_94 ?_
    refine R_getR (pc := 95) (q1 := 39) h flX2_25 lc_35 rfl dX2_valueAs_95 ?_
    refine R_iload_n (pc := 98) h 2 rfl rfl dX2_valueAs_98 ?_
    obtain ⟨v7, hv7, hF⟩ := bd hF
    refine R_iald (pc := 99) h hv7 lc_39 dX2_valueAs_99 ?_
    refine R_isub (pc := 100) h dX2_valueAs_100 ?_
    cases hF
    exact R_ireturn (pc := 101) h rfl rfl rfl dX2_valueAs_101
  have hF := ifn c6 hF
  refine R_tableOut (pc := 33) (tgt := 102) h dX2_valueAs_33 (by have e0 := lv_neT c1 (a := 1) (by decide); have e1 := lv_neT c2 (a := 2) (by decide); have e2 := lv_neT c3 (a := 3) (by decide); have e3 := lv_neT c5 (a := 4) (by decide); have e4 := lv_neT c6 (a := 5) (by decide); omega) (by decide) ?_
  refine R_iload_n (pc := 102) h 4 rfl rfl dX2_valueAs_102 ?_
  cases hF
  exact R_ireturn (pc := 103) h rfl rfl rfl dX2_valueAs_103
def f2_valueAs (M : Mem) (x1 : Int32) (x2 : Int32) (x3 : Int32) : Option (Int32) :=
    (f2_has M x1).bind fun r2 =>
    if r2 = 0 then ((some (0 : Int32)))
    else ((rd M 41 8 x1).bind fun v4 =>
    if ((v4 >>> ((5 : Int32) &&& 31)) &&& (1 : Int32)) = 0 then ((f2_valueAs_30 M x1 x2 x3 x3))
    else ((f2_valueAs_30 M x1 x2 x3 (x3 + (3 : Int32)))))
set_option maxHeartbeats 4000000 in
set_option maxRecDepth 10000 in
theorem w2_valueAs {ad : Nat → Nat} {X : XX} {R : Int32} {M : Mem} (h : Cx layC ad X cX2_valueAs RX2 5 2 (some .int) M (some (.int R))) {x1 : Int32} {x2 : Int32} {x3 : Int32} (hF : f2_valueAs M x1 x2 x3 = some R) : Wp layC ad X M 0 [(0, .ref (ad 35)), (1, .int x1), (2, .int x2), (3, .int x3)] [] := by
  unfold f2_valueAs at hF
  refine R_aload_n (pc := 0) h 0 rfl rfl dX2_valueAs_0 ?_
  refine R_iload_n (pc := 1) h 1 rfl rfl dX2_valueAs_1 ?_
  obtain ⟨r2, hc1, hF⟩ := bd hF
  refine R_callV (pc := 2) (st := []) h [.int x1] cvX2_87 (c2_has (ad := ad) (z := X.1) hc1) rfl rfl lc_35 (by decide) (by decide) (Nat.le_of_ble_eq_true rfl) dX2_valueAs_2 (st1 := [.int r2]) rfl ?_
  refine R_if_ne (pc := 5) (tgt := 10) h dX2_valueAs_5 (by decide) (fun c3 => ?_) (fun c3 => ?_)
  · have hF := ifn c3 hF
    refine R_aload_n (pc := 10) h 0 rfl rfl dX2_valueAs_10 ?_
    refine R_getR (pc := 11) (q1 := 41) h flX2_31 lc_35 rfl dX2_valueAs_11 ?_
    refine R_iload_n (pc := 14) h 1 rfl rfl dX2_valueAs_14 ?_
    obtain ⟨v4, hv4, hF⟩ := bd hF
    refine R_iald (pc := 15) h hv4 lc_41 dX2_valueAs_15 ?_
    refine R_iconst (pc := 16) (v := 5) h (by decide) dX2_valueAs_16 ?_
    refine R_ishr (pc := 17) h dX2_valueAs_17 ?_
    refine R_iconst (pc := 18) (v := 1) h (by decide) dX2_valueAs_18 ?_
    refine R_iand (pc := 19) h dX2_valueAs_19 ?_
    refine R_if_eq (pc := 20) (tgt := 29) h dX2_valueAs_20 (by decide) (fun c5 => ?_) (fun c5 => ?_)
    · have hF := itp c5 hF
      refine R_iload_n (pc := 29) h 3 rfl rfl dX2_valueAs_29 ?_
      exact Wp_sub (nX := 0) (lv' := [(0, .ref (ad 35)), (1, .int x1), (2, .int x2), (3, .int x3)]) [0, 1, 2, 3] rfl (w2_valueAs_30 h  (hF := hF))
    · have hF := ifn c5 hF
      refine R_iload_n (pc := 23) h 3 rfl rfl dX2_valueAs_23 ?_
      refine R_iconst (pc := 24) (v := 3) h (by decide) dX2_valueAs_24 ?_
      refine R_iadd (pc := 25) h dX2_valueAs_25 ?_
      refine R_goto (pc := 26) (tgt := 30) h dX2_valueAs_26 (by decide) ?_
      exact Wp_sub (nX := 0) (lv' := [(0, .ref (ad 35)), (1, .int x1), (2, .int x2), (3, .int x3)]) [0, 1, 2, 3] rfl (w2_valueAs_30 h  (hF := hF))
  · have hF := itp c3 hF
    refine R_iconst (pc := 8) (v := 0) h (by decide) dX2_valueAs_8 ?_
    cases hF
    exact R_ireturn (pc := 9) h rfl rfl rfl dX2_valueAs_9
theorem c2_valueAs {ad : Nat → Nat} {z : ZZ} {R : Int32} {M : Mem} {x1 : Int32} {x2 : Int32} {x3 : Int32} (hF : f2_valueAs M x1 x2 x3 = some R) : Con layC ad z yX2_valueAs cX2_valueAs 5 (some .int) 2 M [.ref (ad 35), .int x1, .int x2, .int x3] (M) (some (.int R)) := con_of (own := RX2) (lv := [(0, .ref (ad 35)), (1, .int x1), (2, .int x2), (3, .int x3)]) (by decide +kernel) rfl (Nat.le_of_ble_eq_true rfl) rfl (fun X hz h => w2_valueAs h hF)
def f2_apartFrom_4 (M : Mem) (fu : Nat) : Nat → Int32 → Int32 → Int32 → Option (Int32)
  | 0 => fun _ _ _ => none
  | f + 1 => fun x1 x2 x3 =>
    if (M.1 35 0) ≤ x3 then ((some x2))
    else ((rd M 41 8 x3).bind fun v2 =>
    if (v2 &&& x1) = 0 then (nm (x2 ||| ((1 : Int32) <<< (x3 &&& 31))) fun v4 =>
    nm (x3 + (1 : Int32)) fun v5 =>
    ((f2_apartFrom_4 M fu f) x1 v4 v5))
    else (nm (x3 + (1 : Int32)) fun v6 =>
    ((f2_apartFrom_4 M fu f) x1 x2 v6)))
set_option maxHeartbeats 4000000 in
set_option maxRecDepth 10000 in
theorem w2_apartFromi_4 {ad : Nat → Nat} {X : XX} {R : Int32} {M : Mem} {fu : Nat}  (h : Cx layC ad X cX2_apartFrom RX2 4 1 (some .int) M (some (.int R)))  : ∀ (f : Nat) (x1 : Int32) (x2 : Int32) (x3 : Int32), f2_apartFrom_4 M fu f x1 x2 x3 = some R → Wp layC ad X M 4 [(0, .ref (ad 35)), (1, .int x1), (2, .int x2), (3, .int x3)] [] := by
  intro f
  induction f with
  | zero => intro x1 x2 x3 hF; exact absurd hF (by simp [f2_apartFrom_4])
  | succ f ih =>
    intro x1 x2 x3 hF
    rw [f2_apartFrom_4] at hF
    refine R_iload_n (pc := 4) h 3 rfl rfl dX2_apartFrom_4 ?_
    refine R_aload_n (pc := 5) h 0 rfl rfl dX2_apartFrom_5 ?_
    refine R_getI (pc := 6) h flX2_9 lc_35 rfl dX2_apartFrom_6 ?_
    refine R_icmp_ge (pc := 9) (tgt := 35) h dX2_apartFrom_9 (by decide) (fun c1 => ?_) (fun c1 => ?_)
    · have hF := itp c1 hF
      refine R_iload_n (pc := 35) h 2 rfl rfl dX2_apartFrom_35 ?_
      cases hF
      exact R_ireturn (pc := 36) h rfl rfl rfl dX2_apartFrom_36
    · have hF := ifn c1 hF
      refine R_aload_n (pc := 12) h 0 rfl rfl dX2_apartFrom_12 ?_
      refine R_getR (pc := 13) (q1 := 41) h flX2_31 lc_35 rfl dX2_apartFrom_13 ?_
      refine R_iload_n (pc := 16) h 3 rfl rfl dX2_apartFrom_16 ?_
      obtain ⟨v2, hv2, hF⟩ := bd hF
      refine R_iald (pc := 17) h hv2 lc_41 dX2_apartFrom_17 ?_
      refine R_iload_n (pc := 18) h 1 rfl rfl dX2_apartFrom_18 ?_
      refine R_iand (pc := 19) h dX2_apartFrom_19 ?_
      refine R_if_ne (pc := 20) (tgt := 29) h dX2_apartFrom_20 (by decide) (fun c3 => ?_) (fun c3 => ?_)
      · have hF := ifn c3 hF
        obtain ⟨v6, hv6, hF⟩ := nm_e2 hF
        refine R_iinc (pc := 29) (lv' := [(3, .int v6), (0, .ref (ad 35)), (1, .int x1), (2, .int x2)]) h 3 rfl (by decide) hv6 (by decide) rfl dX2_apartFrom_29 ?_
        refine R_goto (pc := 32) (tgt := 4) h dX2_apartFrom_32 (by decide) ?_
        exact Wp_sub (nX := 0) (lv' := [(0, .ref (ad 35)), (1, .int x1), (2, .int x2), (3, .int v6)]) [1, 2, 3, 0] rfl (ih _ _ _ hF)
      · have hF := itp c3 hF
        refine R_iload_n (pc := 23) h 2 rfl rfl dX2_apartFrom_23 ?_
        refine R_iconst (pc := 24) (v := 1) h (by decide) dX2_apartFrom_24 ?_
        refine R_iload_n (pc := 25) h 3 rfl rfl dX2_apartFrom_25 ?_
        refine R_ishl (pc := 26) h dX2_apartFrom_26 ?_
        refine R_ior (pc := 27) h dX2_apartFrom_27 ?_
        obtain ⟨v4, hv4, hF⟩ := nm_e2 hF
        refine R_istore_n (pc := 28) (lv' := [(2, .int v4), (0, .ref (ad 35)), (1, .int x1), (3, .int x3)]) h hv4 rfl (by decide) rfl dX2_apartFrom_28 ?_
        obtain ⟨v5, hv5, hF⟩ := nm_e2 hF
        refine R_iinc (pc := 29) (lv' := [(3, .int v5), (2, .int v4), (0, .ref (ad 35)), (1, .int x1)]) h 3 rfl (by decide) hv5 (by decide) rfl dX2_apartFrom_29 ?_
        refine R_goto (pc := 32) (tgt := 4) h dX2_apartFrom_32 (by decide) ?_
        exact Wp_sub (nX := 0) (lv' := [(0, .ref (ad 35)), (1, .int x1), (2, .int v4), (3, .int v5)]) [2, 3, 1, 0] rfl (ih _ _ _ hF)
theorem w2_apartFrom_4 {ad : Nat → Nat} {X : XX} {R : Int32} {M : Mem} {fu : Nat}  (h : Cx layC ad X cX2_apartFrom RX2 4 1 (some .int) M (some (.int R)))  {f : Nat} {x1 : Int32} {x2 : Int32} {x3 : Int32} (hF : f2_apartFrom_4 M fu f x1 x2 x3 = some R) : Wp layC ad X M 4 [(0, .ref (ad 35)), (1, .int x1), (2, .int x2), (3, .int x3)] [] := w2_apartFromi_4 h  f _ _ _ hF
def f2_apartFrom (M : Mem) (fu : Nat) (x1 : Int32) : Option (Int32) :=
    (f2_apartFrom_4 M fu fu x1 (0 : Int32) (0 : Int32))
set_option maxHeartbeats 4000000 in
set_option maxRecDepth 10000 in
theorem w2_apartFrom {ad : Nat → Nat} {X : XX} {R : Int32} {M : Mem} {fu : Nat} (h : Cx layC ad X cX2_apartFrom RX2 4 1 (some .int) M (some (.int R))) {x1 : Int32} (hF : f2_apartFrom M fu x1 = some R) : Wp layC ad X M 0 [(0, .ref (ad 35)), (1, .int x1)] [] := by
  unfold f2_apartFrom at hF
  refine R_iconst (pc := 0) (v := 0) h (by decide) dX2_apartFrom_0 ?_
  refine R_istore_n (pc := 1) (lv' := [(2, .int (0 : Int32)), (0, .ref (ad 35)), (1, .int x1)]) h rfl rfl (by decide) rfl dX2_apartFrom_1 ?_
  refine R_iconst (pc := 2) (v := 0) h (by decide) dX2_apartFrom_2 ?_
  refine R_istore_n (pc := 3) (lv' := [(3, .int (0 : Int32)), (2, .int (0 : Int32)), (0, .ref (ad 35)), (1, .int x1)]) h rfl rfl (by decide) rfl dX2_apartFrom_3 ?_
  exact Wp_sub (nX := 0) (lv' := [(0, .ref (ad 35)), (1, .int x1), (2, .int (0 : Int32)), (3, .int (0 : Int32))]) [2, 3, 1, 0] rfl (w2_apartFrom_4 h  (hF := hF))
theorem c2_apartFrom {ad : Nat → Nat} {z : ZZ} {R : Int32} {M : Mem} {fu : Nat} {x1 : Int32} (hF : f2_apartFrom M fu x1 = some R) : Con layC ad z yX2_apartFrom cX2_apartFrom 4 (some .int) 1 M [.ref (ad 35), .int x1] (M) (some (.int R)) := con_of (own := RX2) (lv := [(0, .ref (ad 35)), (1, .int x1)]) (by decide +kernel) rfl (Nat.le_of_ble_eq_true rfl) rfl (fun X hz h => w2_apartFrom h hF)
def f2_reckonSetsTo_120 (fu : Nat) (k18 : Int32 → Int32 → Int32 → Int32 → Mem → Option (Mem)) (x1 : Int32) (x2 : Int32) (x3 : Int32) (x4 : Int32) (x5 : Int32) (s0 : Int32) (s1 : Int32) (M : Mem) : Option (Mem) :=
    (wr M 45 256 s1 (zb s0)).bind fun M1 =>
    (rd M1 46 256 x4).bind fun v2 =>
    (rd M1 42 8 x1).bind fun v3 =>
    (rd M1 46 256 (x4 &&& x3)).bind fun v4 =>
    (wr M1 46 256 x5 (if v2 < (v3 + v4) then (v3 + v4) else v2)).bind fun M5 =>
    nm (x4 + (1 : Int32)) fun v6 =>
    (k18 x1 x2 x3 v6 M5)
set_option maxHeartbeats 4000000 in
set_option maxRecDepth 10000 in
theorem w2_reckonSetsTo_120 {ad : Nat → Nat} {X : XX} {R : Mem} {fu : Nat} {k18 : Int32 → Int32 → Int32 → Int32 → Mem → Option (Mem)} (h : Cx layC ad X cX2_reckonSetsTo RX2 6 2 none (R) none) (hk18 : ∀ (x1 : Int32) (x2 : Int32) (x3 : Int32) (x4 : Int32) (M : Mem), k18 x1 x2 x3 x4 M = some R → Wp layC ad X M 18 [(0, .ref (ad 35)), (1, .int x1), (2, .int x2), (3, .int x3), (4, .int x4)] []) {x1 : Int32} {x2 : Int32} {x3 : Int32} {x4 : Int32} {x5 : Int32} {s0 : Int32} {s1 : Int32} {M : Mem} (hF : f2_reckonSetsTo_120 fu k18 x1 x2 x3 x4 x5 s0 s1 M = some R) : Wp layC ad X M 120 [(0, .ref (ad 35)), (1, .int x1), (2, .int x2), (3, .int x3), (4, .int x4), (5, .int x5)] [.int s0, .int s1, .ref (ad 45)] := by
  unfold f2_reckonSetsTo_120 at hF
  obtain ⟨M1, hM1, hF⟩ := bd hF
  refine R_zast (pc := 120) h hM1 lc_45 dX2_reckonSetsTo_120 ?_
  refine R_aload_n (pc := 121) h 0 rfl rfl dX2_reckonSetsTo_121 ?_
  refine R_getR (pc := 122) (q1 := 46) h flX2_47 lc_35 rfl dX2_reckonSetsTo_122 ?_
  refine R_iload (pc := 125) h 5 rfl dX2_reckonSetsTo_125 ?_
  refine R_aload_n (pc := 127) h 0 rfl rfl dX2_reckonSetsTo_127 ?_
  refine R_getR (pc := 128) (q1 := 46) h flX2_47 lc_35 rfl dX2_reckonSetsTo_128 ?_
  refine R_iload (pc := 131) h 4 rfl dX2_reckonSetsTo_131 ?_
  obtain ⟨v2, hv2, hF⟩ := bd hF
  refine R_iald (pc := 133) h hv2 lc_46 dX2_reckonSetsTo_133 ?_
  refine R_aload_n (pc := 134) h 0 rfl rfl dX2_reckonSetsTo_134 ?_
  refine R_getR (pc := 135) (q1 := 42) h flX2_34 lc_35 rfl dX2_reckonSetsTo_135 ?_
  refine R_iload_n (pc := 138) h 1 rfl rfl dX2_reckonSetsTo_138 ?_
  obtain ⟨v3, hv3, hF⟩ := bd hF
  refine R_iald (pc := 139) h hv3 lc_42 dX2_reckonSetsTo_139 ?_
  refine R_aload_n (pc := 140) h 0 rfl rfl dX2_reckonSetsTo_140 ?_
  refine R_getR (pc := 141) (q1 := 46) h flX2_47 lc_35 rfl dX2_reckonSetsTo_141 ?_
  refine R_iload (pc := 144) h 4 rfl dX2_reckonSetsTo_144 ?_
  refine R_iload_n (pc := 146) h 3 rfl rfl dX2_reckonSetsTo_146 ?_
  refine R_iand (pc := 147) h dX2_reckonSetsTo_147 ?_
  obtain ⟨v4, hv4, hF⟩ := bd hF
  refine R_iald (pc := 148) h hv4 lc_46 dX2_reckonSetsTo_148 ?_
  refine R_iadd (pc := 149) h dX2_reckonSetsTo_149 ?_
  refine R_mmax (pc := 150) h mlX2_81 (by decide) (Nat.le_of_ble_eq_true rfl) dX2_reckonSetsTo_150 ?_
  obtain ⟨M5, hM5, hF⟩ := bd hF
  refine R_iast (pc := 153) h hM5 lc_46 dX2_reckonSetsTo_153 ?_
  obtain ⟨v6, hv6, hF⟩ := nm_e2 hF
  refine R_iinc (pc := 154) (lv' := [(4, .int v6), (0, .ref (ad 35)), (1, .int x1), (2, .int x2), (3, .int x3), (5, .int x5)]) h 4 rfl (by decide) hv6 (by decide) rfl dX2_reckonSetsTo_154 ?_
  refine R_goto (pc := 157) (tgt := 18) h dX2_reckonSetsTo_157 (by decide) ?_
  exact Wp_sub (nX := 0) (lv' := [(0, .ref (ad 35)), (1, .int x1), (2, .int x2), (3, .int x3), (4, .int v6)]) [1, 2, 3, 4, 0] rfl (hk18 _ _ _ _ _ hF)
def f2_reckonSetsTo_18 (fu : Nat) : Nat → Int32 → Int32 → Int32 → Int32 → Mem → Option (Mem)
  | 0 => fun _ _ _ _ _ => none
  | f + 1 => fun x1 x2 x3 x4 M =>
    if x2 ≤ x4 then ((some M))
    else (if (256 : Int32) ≤ (x4 ||| x2) then ((some M))
    else (nm (x4 ||| x2) fun v3 =>
    (rd M 43 256 x4).bind fun v4 =>
    (rd M 41 8 x1).bind fun v5 =>
    (wr M 43 256 v3 (v4 ||| v5)).bind fun M6 =>
    (rd M6 44 256 x4).bind fun v7 =>
    (rd M6 42 8 x1).bind fun v8 =>
    (wr M6 44 256 v3 (v7 + v8)).bind fun M9 =>
    (rd M9 45 256 x4).bind fun v10 =>
    if v10 = 0 then ((f2_reckonSetsTo_120 fu (f2_reckonSetsTo_18 fu f) x1 x2 x3 x4 v3 (0 : Int32) v3 M9))
    else ((rd M9 43 256 x4).bind fun v12 =>
    (rd M9 41 8 x1).bind fun v13 =>
    if (v12 &&& v13) = 0 then ((f2_reckonSetsTo_120 fu (f2_reckonSetsTo_18 fu f) x1 x2 x3 x4 v3 (1 : Int32) v3 M9))
    else ((f2_reckonSetsTo_120 fu (f2_reckonSetsTo_18 fu f) x1 x2 x3 x4 v3 (0 : Int32) v3 M9)))))
set_option maxHeartbeats 4000000 in
set_option maxRecDepth 10000 in
theorem w2_reckonSetsToi_18 {ad : Nat → Nat} {X : XX} {R : Mem} {fu : Nat}  (h : Cx layC ad X cX2_reckonSetsTo RX2 6 2 none (R) none)  : ∀ (f : Nat) (x1 : Int32) (x2 : Int32) (x3 : Int32) (x4 : Int32) (M : Mem), f2_reckonSetsTo_18 fu f x1 x2 x3 x4 M = some R → Wp layC ad X M 18 [(0, .ref (ad 35)), (1, .int x1), (2, .int x2), (3, .int x3), (4, .int x4)] [] := by
  intro f
  induction f with
  | zero => intro x1 x2 x3 x4 M hF; exact absurd hF (by simp [f2_reckonSetsTo_18])
  | succ f ih =>
    intro x1 x2 x3 x4 M hF
    rw [f2_reckonSetsTo_18] at hF
    refine R_iload (pc := 18) h 4 rfl dX2_reckonSetsTo_18 ?_
    refine R_iload_n (pc := 20) h 2 rfl rfl dX2_reckonSetsTo_20 ?_
    refine R_icmp_ge (pc := 21) (tgt := 160) h dX2_reckonSetsTo_21 (by decide) (fun c1 => ?_) (fun c1 => ?_)
    · have hF := itp c1 hF
      cases hF
      exact R_return (pc := 160) h rfl rfl rfl dX2_reckonSetsTo_160
    · have hF := ifn c1 hF
      refine R_iload (pc := 24) h 4 rfl dX2_reckonSetsTo_24 ?_
      refine R_iload_n (pc := 26) h 2 rfl rfl dX2_reckonSetsTo_26 ?_
      refine R_ior (pc := 27) h dX2_reckonSetsTo_27 ?_
      refine R_sipush (pc := 28) (v := 256) h (by decide) dX2_reckonSetsTo_28 ?_
      refine R_icmp_ge (pc := 31) (tgt := 160) h dX2_reckonSetsTo_31 (by decide) (fun c2 => ?_) (fun c2 => ?_)
      · have hF := itp c2 hF
        cases hF
        exact R_return (pc := 160) h rfl rfl rfl dX2_reckonSetsTo_160
      · have hF := ifn c2 hF
        refine R_iload (pc := 34) h 4 rfl dX2_reckonSetsTo_34 ?_
        refine R_iload_n (pc := 36) h 2 rfl rfl dX2_reckonSetsTo_36 ?_
        refine R_ior (pc := 37) h dX2_reckonSetsTo_37 ?_
        obtain ⟨v3, hv3, hF⟩ := nm_e2 hF
        refine R_istore (pc := 38) (lv' := [(5, .int v3), (0, .ref (ad 35)), (1, .int x1), (2, .int x2), (3, .int x3), (4, .int x4)]) h hv3 (by decide) rfl dX2_reckonSetsTo_38 ?_
        refine R_aload_n (pc := 40) h 1 rfl rfl dX2_reckonSetsTo_40 ?_
        refine R_getR (pc := 41) (q1 := 43) h flX2_37 lc_35 rfl dX2_reckonSetsTo_41 ?_
        refine R_iload (pc := 44) h 0 rfl dX2_reckonSetsTo_44 ?_
        refine R_aload_n (pc := 46) h 1 rfl rfl dX2_reckonSetsTo_46 ?_
        refine R_getR (pc := 47) (q1 := 43) h flX2_37 lc_35 rfl dX2_reckonSetsTo_47 ?_
        refine R_iload (pc := 50) h 5 rfl dX2_reckonSetsTo_50 ?_
        obtain ⟨v4, hv4, hF⟩ := bd hF
        refine R_iald (pc := 52) h hv4 lc_43 dX2_reckonSetsTo_52 ?_
        refine R_aload_n (pc := 53) h 1 rfl rfl dX2_reckonSetsTo_53 ?_
        refine R_getR (pc := 54) (q1 := 41) h flX2_31 lc_35 rfl dX2_reckonSetsTo_54 ?_
        refine R_iload_n (pc := 57) h 2 rfl rfl dX2_reckonSetsTo_57 ?_
        obtain ⟨v5, hv5, hF⟩ := bd hF
        refine R_iald (pc := 58) h hv5 lc_41 dX2_reckonSetsTo_58 ?_
        refine R_ior (pc := 59) h dX2_reckonSetsTo_59 ?_
        obtain ⟨M6, hM6, hF⟩ := bd hF
        refine R_iast (pc := 60) h hM6 lc_43 dX2_reckonSetsTo_60 ?_
        refine R_aload_n (pc := 61) h 1 rfl rfl dX2_reckonSetsTo_61 ?_
        refine R_getR (pc := 62) (q1 := 44) h flX2_40 lc_35 rfl dX2_reckonSetsTo_62 ?_
        refine R_iload (pc := 65) h 0 rfl dX2_reckonSetsTo_65 ?_
        refine R_aload_n (pc := 67) h 1 rfl rfl dX2_reckonSetsTo_67 ?_
        refine R_getR (pc := 68) (q1 := 44) h flX2_40 lc_35 rfl dX2_reckonSetsTo_68 ?_
        refine R_iload (pc := 71) h 5 rfl dX2_reckonSetsTo_71 ?_
        obtain ⟨v7, hv7, hF⟩ := bd hF
        refine R_iald (pc := 73) h hv7 lc_44 dX2_reckonSetsTo_73 ?_
        refine R_aload_n (pc := 74) h 1 rfl rfl dX2_reckonSetsTo_74 ?_
        refine R_getR (pc := 75) (q1 := 42) h flX2_34 lc_35 rfl dX2_reckonSetsTo_75 ?_
        refine R_iload_n (pc := 78) h 2 rfl rfl dX2_reckonSetsTo_78 ?_
        obtain ⟨v8, hv8, hF⟩ := bd hF
        refine R_iald (pc := 79) h hv8 lc_42 dX2_reckonSetsTo_79 ?_
        refine R_iadd (pc := 80) h dX2_reckonSetsTo_80 ?_
        obtain ⟨M9, hM9, hF⟩ := bd hF
        refine R_iast (pc := 81) h hM9 lc_44 dX2_reckonSetsTo_81 ?_
        refine R_aload_n (pc := 82) h 1 rfl rfl dX2_reckonSetsTo_82 ?_
        refine R_getR (pc := 83) (q1 := 45) h flX2_43 lc_35 rfl dX2_reckonSetsTo_83 ?_
        refine R_iload (pc := 86) h 0 rfl dX2_reckonSetsTo_86 ?_
        refine R_aload_n (pc := 88) h 1 rfl rfl dX2_reckonSetsTo_88 ?_
        refine R_getR (pc := 89) (q1 := 45) h flX2_43 lc_35 rfl dX2_reckonSetsTo_89 ?_
        refine R_iload (pc := 92) h 5 rfl dX2_reckonSetsTo_92 ?_
        obtain ⟨v10, hv10, hF⟩ := bd hF
        refine R_zald (pc := 94) h hv10 lc_45 dX2_reckonSetsTo_94 ?_
        refine R_if_eq (pc := 95) (tgt := 119) h dX2_reckonSetsTo_95 (by decide) (fun c11 => ?_) (fun c11 => ?_)
        · have hF := itp c11 hF
          refine R_iconst (pc := 119) (v := 0) h (by decide) dX2_reckonSetsTo_119 ?_
          exact Wp_sub (nX := 0) (lv' := [(0, .ref (ad 35)), (1, .int x1), (2, .int x2), (3, .int x3), (4, .int x4), (5, .int v3)]) [1, 2, 3, 4, 5, 0] rfl (w2_reckonSetsTo_120 h (hk18 := fun a0 a1 a2 a3 a4 hF => ih a0 a1 a2 a3 a4 hF) (hF := hF))
        · have hF := ifn c11 hF
          refine R_aload_n (pc := 98) h 1 rfl rfl dX2_reckonSetsTo_98 ?_
          refine R_getR (pc := 99) (q1 := 43) h flX2_37 lc_35 rfl dX2_reckonSetsTo_99 ?_
          refine R_iload (pc := 102) h 5 rfl dX2_reckonSetsTo_102 ?_
          obtain ⟨v12, hv12, hF⟩ := bd hF
          refine R_iald (pc := 104) h hv12 lc_43 dX2_reckonSetsTo_104 ?_
          refine R_aload_n (pc := 105) h 1 rfl rfl dX2_reckonSetsTo_105 ?_
          refine R_getR (pc := 106) (q1 := 41) h flX2_31 lc_35 rfl dX2_reckonSetsTo_106 ?_
          refine R_iload_n (pc := 109) h 2 rfl rfl dX2_reckonSetsTo_109 ?_
          obtain ⟨v13, hv13, hF⟩ := bd hF
          refine R_iald (pc := 110) h hv13 lc_41 dX2_reckonSetsTo_110 ?_
          refine R_iand (pc := 111) h dX2_reckonSetsTo_111 ?_
          refine R_if_ne (pc := 112) (tgt := 119) h dX2_reckonSetsTo_112 (by decide) (fun c14 => ?_) (fun c14 => ?_)
          · have hF := ifn c14 hF
            refine R_iconst (pc := 119) (v := 0) h (by decide) dX2_reckonSetsTo_119 ?_
            exact Wp_sub (nX := 0) (lv' := [(0, .ref (ad 35)), (1, .int x1), (2, .int x2), (3, .int x3), (4, .int x4), (5, .int v3)]) [1, 2, 3, 4, 5, 0] rfl (w2_reckonSetsTo_120 h (hk18 := fun a0 a1 a2 a3 a4 hF => ih a0 a1 a2 a3 a4 hF) (hF := hF))
          · have hF := itp c14 hF
            refine R_iconst (pc := 115) (v := 1) h (by decide) dX2_reckonSetsTo_115 ?_
            refine R_goto (pc := 116) (tgt := 120) h dX2_reckonSetsTo_116 (by decide) ?_
            exact Wp_sub (nX := 0) (lv' := [(0, .ref (ad 35)), (1, .int x1), (2, .int x2), (3, .int x3), (4, .int x4), (5, .int v3)]) [1, 2, 3, 4, 5, 0] rfl (w2_reckonSetsTo_120 h (hk18 := fun a0 a1 a2 a3 a4 hF => ih a0 a1 a2 a3 a4 hF) (hF := hF))
theorem w2_reckonSetsTo_18 {ad : Nat → Nat} {X : XX} {R : Mem} {fu : Nat}  (h : Cx layC ad X cX2_reckonSetsTo RX2 6 2 none (R) none)  {f : Nat} {x1 : Int32} {x2 : Int32} {x3 : Int32} {x4 : Int32} {M : Mem} (hF : f2_reckonSetsTo_18 fu f x1 x2 x3 x4 M = some R) : Wp layC ad X M 18 [(0, .ref (ad 35)), (1, .int x1), (2, .int x2), (3, .int x3), (4, .int x4)] [] := w2_reckonSetsToi_18 h  f _ _ _ _ _ hF
def f2_reckonSetsTo (fu : Nat) (x1 : Int32) (M : Mem) : Option (Mem) :=
    nm ((1 : Int32) <<< (x1 &&& 31)) fun v1 =>
    (rd M 41 8 x1).bind fun v2 =>
    (f2_apartFrom M fu v2).bind fun r4 =>
    (f2_reckonSetsTo_18 fu fu x1 v1 r4 (0 : Int32) M)
set_option maxHeartbeats 4000000 in
set_option maxRecDepth 10000 in
theorem w2_reckonSetsTo {ad : Nat → Nat} {X : XX} {R : Mem} {fu : Nat} (h : Cx layC ad X cX2_reckonSetsTo RX2 6 2 none (R) none) {x1 : Int32} {M : Mem} (hF : f2_reckonSetsTo fu x1 M = some R) : Wp layC ad X M 0 [(0, .ref (ad 35)), (1, .int x1)] [] := by
  unfold f2_reckonSetsTo at hF
  refine R_iconst (pc := 0) (v := 1) h (by decide) dX2_reckonSetsTo_0 ?_
  refine R_iload_n (pc := 1) h 1 rfl rfl dX2_reckonSetsTo_1 ?_
  refine R_ishl (pc := 2) h dX2_reckonSetsTo_2 ?_
  obtain ⟨v1, hv1, hF⟩ := nm_e2 hF
  refine R_istore_n (pc := 3) (lv' := [(2, .int v1), (0, .ref (ad 35)), (1, .int x1)]) h hv1 rfl (by decide) rfl dX2_reckonSetsTo_3 ?_
  refine R_aload_n (pc := 4) h 1 rfl rfl dX2_reckonSetsTo_4 ?_
  refine R_aload_n (pc := 5) h 1 rfl rfl dX2_reckonSetsTo_5 ?_
  refine R_getR (pc := 6) (q1 := 41) h flX2_31 lc_35 rfl dX2_reckonSetsTo_6 ?_
  refine R_iload_n (pc := 9) h 2 rfl rfl dX2_reckonSetsTo_9 ?_
  obtain ⟨v2, hv2, hF⟩ := bd hF
  refine R_iald (pc := 10) h hv2 lc_41 dX2_reckonSetsTo_10 ?_
  obtain ⟨r4, hc3, hF⟩ := bd hF
  refine R_callV (pc := 11) (st := []) h [.int v2] cvX2_78 (c2_apartFrom (ad := ad) (z := X.1) hc3) rfl rfl lc_35 (by decide) (by decide) (Nat.le_of_ble_eq_true rfl) dX2_reckonSetsTo_11 (st1 := [.int r4]) rfl ?_
  refine R_istore_n (pc := 14) (lv' := [(3, .int r4), (2, .int v1), (0, .ref (ad 35)), (1, .int x1)]) h rfl rfl (by decide) rfl dX2_reckonSetsTo_14 ?_
  refine R_iconst (pc := 15) (v := 0) h (by decide) dX2_reckonSetsTo_15 ?_
  refine R_istore (pc := 16) (lv' := [(4, .int (0 : Int32)), (3, .int r4), (2, .int v1), (0, .ref (ad 35)), (1, .int x1)]) h rfl (by decide) rfl dX2_reckonSetsTo_16 ?_
  exact Wp_sub (nX := 0) (lv' := [(0, .ref (ad 35)), (1, .int x1), (2, .int v1), (3, .int r4), (4, .int (0 : Int32))]) [3, 4, 2, 1, 0] rfl (w2_reckonSetsTo_18 h  (hF := hF))
theorem c2_reckonSetsTo {ad : Nat → Nat} {z : ZZ} {R : Mem} {fu : Nat} {x1 : Int32} {M : Mem} (hF : f2_reckonSetsTo fu x1 M = some R) : Con layC ad z yX2_reckonSetsTo cX2_reckonSetsTo 6 none 2 M [.ref (ad 35), .int x1] (R) none := con_of (own := RX2) (lv := [(0, .ref (ad 35)), (1, .int x1)]) (by decide +kernel) rfl (Nat.le_of_ble_eq_true rfl) rfl (fun X hz h => w2_reckonSetsTo h hF)
def f2_read_137 (fu : Nat) : Nat → Int32 → Mem → Option (Mem)
  | 0 => fun _ _ => none
  | f + 1 => fun x3 M =>
    if (M.1 35 0) ≤ x3 then ((some M))
    else ((f2_reckonSetsTo fu x3 M).bind fun M3 =>
    nm (x3 + (1 : Int32)) fun v4 =>
    ((f2_read_137 fu f) v4 M3))
set_option maxHeartbeats 4000000 in
set_option maxRecDepth 10000 in
theorem w2_readi_137 {ad : Nat → Nat} {X : XX} {R : Mem} {fu : Nat}  (h : Cx layC ad X cX2_read RX2 5 3 none (R) none)  : ∀ (f : Nat) (x3 : Int32) (M : Mem), f2_read_137 fu f x3 M = some R → Wp layC ad X M 137 [(0, .ref (ad 35)), (3, .int x3)] [] := by
  intro f
  induction f with
  | zero => intro x3 M hF; exact absurd hF (by simp [f2_read_137])
  | succ f ih =>
    intro x3 M hF
    rw [f2_read_137] at hF
    refine R_iload_n (pc := 137) h 1 rfl rfl dX2_read_137 ?_
    refine R_aload_n (pc := 138) h 0 rfl rfl dX2_read_138 ?_
    refine R_getI (pc := 139) h flX2_9 lc_35 rfl dX2_read_139 ?_
    refine R_icmp_ge (pc := 142) (tgt := 156) h dX2_read_142 (by decide) (fun c1 => ?_) (fun c1 => ?_)
    · have hF := itp c1 hF
      cases hF
      exact R_return (pc := 156) h rfl rfl rfl dX2_read_156
    · have hF := ifn c1 hF
      refine R_aload_n (pc := 145) h 0 rfl rfl dX2_read_145 ?_
      refine R_iload_n (pc := 146) h 1 rfl rfl dX2_read_146 ?_
      obtain ⟨M3, hc2, hF⟩ := bd hF
      refine R_callV (pc := 147) (st := []) h [.int x3] cvX2_71 (c2_reckonSetsTo (ad := ad) (z := X.1) hc2) rfl rfl lc_35 (by decide) (by decide) (Nat.le_of_ble_eq_true rfl) dX2_read_147 (st1 := []) rfl ?_
      obtain ⟨v4, hv4, hF⟩ := nm_e2 hF
      refine R_iinc (pc := 150) (lv' := [(3, .int v4), (0, .ref (ad 35))]) h 1 rfl (by decide) hv4 (by decide) rfl dX2_read_150 ?_
      refine R_goto (pc := 153) (tgt := 137) h dX2_read_153 (by decide) ?_
      exact Wp_sub (nX := 0) (lv' := [(0, .ref (ad 35)), (3, .int v4)]) [1, 0] rfl (ih _ _ hF)
theorem w2_read_137 {ad : Nat → Nat} {X : XX} {R : Mem} {fu : Nat}  (h : Cx layC ad X cX2_read RX2 5 3 none (R) none)  {f : Nat} {x3 : Int32} {M : Mem} (hF : f2_read_137 fu f x3 M = some R) : Wp layC ad X M 137 [(0, .ref (ad 35)), (3, .int x3)] [] := w2_readi_137 h  f _ _ hF
def f2_read_75 (fu : Nat) : Nat → Int32 → Mem → Option (Mem)
  | 0 => fun _ _ => none
  | f + 1 => fun x3 M =>
    if (M.1 35 0) ≤ x3 then ((f2_read_137 fu fu (0 : Int32) M))
    else ((rd M 39 8 x3).bind fun v2 =>
    (rd M 38 8 x3).bind fun v3 =>
    (wr M 41 8 x3 ((((1 : Int32) <<< (v2 &&& 31)) - (1 : Int32)) <<< (v3 &&& 31))).bind fun M4 =>
    (rd M4 36 8 x3).bind fun v5 =>
    (rd M4 40 8 x3).bind fun v6 =>
    (f2_valueAs M4 x3 v5 v6).bind fun r8 =>
    (wr M4 42 8 x3 r8).bind fun M9 =>
    nm (x3 + (1 : Int32)) fun v10 =>
    ((f2_read_75 fu f) v10 M9))
set_option maxHeartbeats 4000000 in
set_option maxRecDepth 10000 in
theorem w2_readi_75 {ad : Nat → Nat} {X : XX} {R : Mem} {fu : Nat}  (h : Cx layC ad X cX2_read RX2 5 3 none (R) none)  : ∀ (f : Nat) (x3 : Int32) (M : Mem), f2_read_75 fu f x3 M = some R → Wp layC ad X M 75 [(0, .ref (ad 35)), (3, .int x3)] [] := by
  intro f
  induction f with
  | zero => intro x3 M hF; exact absurd hF (by simp [f2_read_75])
  | succ f ih =>
    intro x3 M hF
    rw [f2_read_75] at hF
    refine R_iload_n (pc := 75) h 1 rfl rfl dX2_read_75 ?_
    refine R_aload_n (pc := 76) h 0 rfl rfl dX2_read_76 ?_
    refine R_getI (pc := 77) h flX2_9 lc_35 rfl dX2_read_77 ?_
    refine R_icmp_ge (pc := 80) (tgt := 135) h dX2_read_80 (by decide) (fun c1 => ?_) (fun c1 => ?_)
    · have hF := itp c1 hF
      refine R_iconst (pc := 135) (v := 0) h (by decide) dX2_read_135 ?_
      refine R_istore_n (pc := 136) (lv' := [(3, .int (0 : Int32)), (0, .ref (ad 35))]) h rfl rfl (by decide) rfl dX2_read_136 ?_
      exact Wp_sub (nX := 0) (lv' := [(0, .ref (ad 35)), (3, .int (0 : Int32))]) [1, 0] rfl (w2_read_137 h  (hF := hF))
    · have hF := ifn c1 hF
      refine R_aload_n (pc := 83) h 0 rfl rfl dX2_read_83 ?_
      refine R_getR (pc := 84) (q1 := 41) h flX2_31 lc_35 rfl dX2_read_84 ?_
      refine R_iload_n (pc := 87) h 1 rfl rfl dX2_read_87 ?_
      refine R_iconst (pc := 88) (v := 1) h (by decide) dX2_read_88 ?_
      refine R_aload_n (pc := 89) h 0 rfl rfl dX2_read_89 ?_
      refine R_getR (pc := 90) (q1 := 39) h flX2_25 lc_35 rfl dX2_read_90 ?_
      refine R_iload_n (pc := 93) h 1 rfl rfl dX2_read_93 ?_
      obtain ⟨v2, hv2, hF⟩ := bd hF
      refine R_iald (pc := 94) h hv2 lc_39 dX2_read_94 ?_
      refine R_ishl (pc := 95) h dX2_read_95 ?_
      refine R_iconst (pc := 96) (v := 1) h (by decide) dX2_read_96 ?_
      refine R_isub (pc := 97) h dX2_read_97 ?_
      refine R_aload_n (pc := 98) h 0 rfl rfl dX2_read_98 ?_
      refine R_getR (pc := 99) (q1 := 38) h flX2_22 lc_35 rfl dX2_read_99 ?_
      refine R_iload_n (pc := 102) h 1 rfl rfl dX2_read_102 ?_
      obtain ⟨v3, hv3, hF⟩ := bd hF
      refine R_iald (pc := 103) h hv3 lc_38 dX2_read_103 ?_
      refine R_ishl (pc := 104) h dX2_read_104 ?_
      obtain ⟨M4, hM4, hF⟩ := bd hF
      refine R_iast (pc := 105) h hM4 lc_41 dX2_read_105 ?_
      refine R_aload_n (pc := 106) h 0 rfl rfl dX2_read_106 ?_
      refine R_getR (pc := 107) (q1 := 42) h flX2_34 lc_35 rfl dX2_read_107 ?_
      refine R_iload_n (pc := 110) h 1 rfl rfl dX2_read_110 ?_
      refine R_aload_n (pc := 111) h 0 rfl rfl dX2_read_111 ?_
      refine R_iload_n (pc := 112) h 1 rfl rfl dX2_read_112 ?_
      refine R_aload_n (pc := 113) h 0 rfl rfl dX2_read_113 ?_
      refine R_getR (pc := 114) (q1 := 36) h flX2_15 lc_35 rfl dX2_read_114 ?_
      refine R_iload_n (pc := 117) h 1 rfl rfl dX2_read_117 ?_
      obtain ⟨v5, hv5, hF⟩ := bd hF
      refine R_iald (pc := 118) h hv5 lc_36 dX2_read_118 ?_
      refine R_aload_n (pc := 119) h 0 rfl rfl dX2_read_119 ?_
      refine R_getR (pc := 120) (q1 := 40) h flX2_28 lc_35 rfl dX2_read_120 ?_
      refine R_iload_n (pc := 123) h 1 rfl rfl dX2_read_123 ?_
      obtain ⟨v6, hv6, hF⟩ := bd hF
      refine R_iald (pc := 124) h hv6 lc_40 dX2_read_124 ?_
      obtain ⟨r8, hc7, hF⟩ := bd hF
      refine R_callV (pc := 125) (st := [.int x3, .ref (ad 42)]) h [.int x3, .int v5, .int v6] cvX2_67 (c2_valueAs (ad := ad) (z := X.1) hc7) rfl rfl lc_35 (by decide) (by decide) (Nat.le_of_ble_eq_true rfl) dX2_read_125 (st1 := [.int r8, .int x3, .ref (ad 42)]) rfl ?_
      obtain ⟨M9, hM9, hF⟩ := bd hF
      refine R_iast (pc := 128) h hM9 lc_42 dX2_read_128 ?_
      obtain ⟨v10, hv10, hF⟩ := nm_e2 hF
      refine R_iinc (pc := 129) (lv' := [(3, .int v10), (0, .ref (ad 35))]) h 1 rfl (by decide) hv10 (by decide) rfl dX2_read_129 ?_
      refine R_goto (pc := 132) (tgt := 75) h dX2_read_132 (by decide) ?_
      exact Wp_sub (nX := 0) (lv' := [(0, .ref (ad 35)), (3, .int v10)]) [1, 0] rfl (ih _ _ hF)
theorem w2_read_75 {ad : Nat → Nat} {X : XX} {R : Mem} {fu : Nat}  (h : Cx layC ad X cX2_read RX2 5 3 none (R) none)  {f : Nat} {x3 : Int32} {M : Mem} (hF : f2_read_75 fu f x3 M = some R) : Wp layC ad X M 75 [(0, .ref (ad 35)), (3, .int x3)] [] := w2_readi_75 h  f _ _ hF
def f2_read_9 (fu : Nat) : Nat → Nat → Int32 → Int32 → Mem → Option (Mem)
  | 0 => fun _ _ _ _ => none
  | f + 1 => fun px1 x2 x3 M =>
    (gd (decide (px1 < 10))).bind fun _ =>
    if (M.1 px1 0) ≤ x3 then ((f2_read_75 fu fu (0 : Int32) M))
    else (if (8 : Int32) ≤ (M.1 35 0) then ((f2_read_75 fu fu (0 : Int32) M))
    else ((f0_cellAt M px1 x3).bind fun r5 =>
    if r5 = (32 : Int32) then (nm (x3 + (1 : Int32)) fun v7 =>
    ((f2_read_9 fu f) px1 x2 v7 M))
    else ((f2_takeSign fu x2 r5 M).bind fun M9 =>
    nm (x2 + (1 : Int32)) fun v10 =>
    if v10 = (5 : Int32) then (nm (sI M9 35 0 ((M9.1 35 0) + (1 : Int32))) fun M12 =>
    nm (x3 + (1 : Int32)) fun v13 =>
    ((f2_read_9 fu f) px1 (0 : Int32) v13 M12))
    else (nm (x3 + (1 : Int32)) fun v14 =>
    ((f2_read_9 fu f) px1 v10 v14 M9)))))
set_option maxHeartbeats 4000000 in
set_option maxRecDepth 10000 in
theorem w2_readi_9 {ad : Nat → Nat} {X : XX} {R : Mem} {fu : Nat}  (h : Cx layC ad X cX2_read RX2 5 3 none (R) none)  : ∀ (f : Nat) (px1 : Nat) (x2 : Int32) (x3 : Int32) (M : Mem), f2_read_9 fu f px1 x2 x3 M = some R → Wp layC ad X M 9 [(0, .ref (ad 35)), (1, .ref (ad px1)), (2, .int x2), (3, .int x3)] [] := by
  intro f
  induction f with
  | zero => intro px1 x2 x3 M hF; exact absurd hF (by simp [f2_read_9])
  | succ f ih =>
    intro px1 x2 x3 M hF
    rw [f2_read_9] at hF
    refine R_iload_n (pc := 9) h 3 rfl rfl dX2_read_9 ?_
    refine R_aload_n (pc := 10) h 1 rfl rfl dX2_read_10 ?_
    obtain ⟨_, hg1, hF⟩ := bd hF
    have hg1 := of_decide_eq_true (gd_s hg1)
    refine R_getI (pc := 11) h flX2_54 (lyCells hg1) rfl dX2_read_11 ?_
    refine R_icmp_ge (pc := 14) (tgt := 73) h dX2_read_14 (by decide) (fun c2 => ?_) (fun c2 => ?_)
    · have hF := itp c2 hF
      refine R_iconst (pc := 73) (v := 0) h (by decide) dX2_read_73 ?_
      refine R_istore_n (pc := 74) (lv' := [(3, .int (0 : Int32)), (0, .ref (ad 35)), (1, .ref (ad px1)), (2, .int x2)]) h rfl rfl (by decide) rfl dX2_read_74 ?_
      exact Wp_sub (nX := 0) (lv' := [(0, .ref (ad 35)), (3, .int (0 : Int32))]) [1, 0] rfl (w2_read_75 h  (hF := hF))
    · have hF := ifn c2 hF
      refine R_aload_n (pc := 17) h 0 rfl rfl dX2_read_17 ?_
      refine R_getI (pc := 18) h flX2_9 lc_35 rfl dX2_read_18 ?_
      refine R_bipush (pc := 21) (v := 8) h (by decide) dX2_read_21 ?_
      refine R_icmp_ge (pc := 23) (tgt := 73) h dX2_read_23 (by decide) (fun c3 => ?_) (fun c3 => ?_)
      · have hF := itp c3 hF
        refine R_iconst (pc := 73) (v := 0) h (by decide) dX2_read_73 ?_
        refine R_istore_n (pc := 74) (lv' := [(3, .int (0 : Int32)), (0, .ref (ad 35)), (1, .ref (ad px1)), (2, .int x2)]) h rfl rfl (by decide) rfl dX2_read_74 ?_
        exact Wp_sub (nX := 0) (lv' := [(0, .ref (ad 35)), (3, .int (0 : Int32))]) [1, 0] rfl (w2_read_75 h  (hF := hF))
      · have hF := ifn c3 hF
        refine R_aload_n (pc := 26) h 1 rfl rfl dX2_read_26 ?_
        refine R_iload_n (pc := 27) h 3 rfl rfl dX2_read_27 ?_
        obtain ⟨r5, hc4, hF⟩ := bd hF
        refine R_callV (pc := 28) (st := []) h [.int x3] cvX2_59 (c0_cellAt (ad := ad) (z := X.1) hc4) rfl rfl (lyCells hg1) (by decide) (by decide) (Nat.le_of_ble_eq_true rfl) dX2_read_28 (st1 := [.int r5]) rfl ?_
        refine R_istore (pc := 31) (lv' := [(4, .int r5), (0, .ref (ad 35)), (1, .ref (ad px1)), (2, .int x2), (3, .int x3)]) h rfl (by decide) rfl dX2_read_31 ?_
        refine R_iload (pc := 33) h 0 rfl dX2_read_33 ?_
        refine R_bipush (pc := 35) (v := 32) h (by decide) dX2_read_35 ?_
        refine R_icmp_eq (pc := 37) (tgt := 67) h dX2_read_37 (by decide) (fun c6 => ?_) (fun c6 => ?_)
        · have hF := itp c6 hF
          obtain ⟨v7, hv7, hF⟩ := nm_e2 hF
          refine R_iinc (pc := 67) (lv' := [(3, .int v7), (4, .int r5), (0, .ref (ad 35)), (1, .ref (ad px1)), (2, .int x2)]) h 4 rfl (by decide) hv7 (by decide) rfl dX2_read_67 ?_
          refine R_goto (pc := 70) (tgt := 9) h dX2_read_70 (by decide) ?_
          exact Wp_sub (nX := 0) (lv' := [(0, .ref (ad 35)), (1, .ref (ad px1)), (2, .int x2), (3, .int v7)]) [2, 3, 4, 0] rfl (ih _ _ _ _ hF)
        · have hF := ifn c6 hF
          refine R_aload_n (pc := 40) h 1 rfl rfl dX2_read_40 ?_
          refine R_iload_n (pc := 41) h 3 rfl rfl dX2_read_41 ?_
          refine R_iload (pc := 42) h 0 rfl dX2_read_42 ?_
          obtain ⟨M9, hc8, hF⟩ := bd hF
          refine R_callV (pc := 44) (st := []) h [.int x2, .int r5] cvX2_63 (c2_takeSign (ad := ad) (z := X.1) hc8) rfl rfl lc_35 (by decide) (by decide) (Nat.le_of_ble_eq_true rfl) dX2_read_44 (st1 := []) rfl ?_
          obtain ⟨v10, hv10, hF⟩ := nm_e2 hF
          refine R_iinc (pc := 47) (lv' := [(2, .int v10), (4, .int r5), (0, .ref (ad 35)), (1, .ref (ad px1)), (3, .int x3)]) h 3 rfl (by decide) hv10 (by decide) rfl dX2_read_47 ?_
          refine R_iload_n (pc := 50) h 0 rfl rfl dX2_read_50 ?_
          refine R_iconst (pc := 51) (v := 5) h (by decide) dX2_read_51 ?_
          refine R_icmp_ne (pc := 52) (tgt := 67) h dX2_read_52 (by decide) (fun c11 => ?_) (fun c11 => ?_)
          · have hF := ifn c11 hF
            obtain ⟨v14, hv14, hF⟩ := nm_e2 hF
            refine R_iinc (pc := 67) (lv' := [(3, .int v14), (2, .int v10), (4, .int r5), (0, .ref (ad 35)), (1, .ref (ad px1))]) h 4 rfl (by decide) hv14 (by decide) rfl dX2_read_67 ?_
            refine R_goto (pc := 70) (tgt := 9) h dX2_read_70 (by decide) ?_
            exact Wp_sub (nX := 0) (lv' := [(0, .ref (ad 35)), (1, .ref (ad px1)), (2, .int v10), (3, .int v14)]) [3, 4, 1, 0] rfl (ih _ _ _ _ hF)
          · have hF := itp c11 hF
            refine R_iconst (pc := 55) (v := 0) h (by decide) dX2_read_55 ?_
            refine R_istore_n (pc := 56) (lv' := [(2, .int (0 : Int32)), (4, .int r5), (0, .ref (ad 35)), (1, .ref (ad px1)), (3, .int x3)]) h rfl rfl (by decide) rfl dX2_read_56 ?_
            refine R_aload_n (pc := 57) h 2 rfl rfl dX2_read_57 ?_
            refine R_dup (pc := 58) h rfl dX2_read_58 ?_
            refine R_getI (pc := 59) h flX2_9 lc_35 rfl dX2_read_59 ?_
            refine R_iconst (pc := 62) (v := 1) h (by decide) dX2_read_62 ?_
            refine R_iadd (pc := 63) h dX2_read_63 ?_
            obtain ⟨M12, hM12, hF⟩ := nm_e2 hF
            refine R_putI (pc := 64) h hM12 fpX2_9 lc_35 rfl dX2_read_64 ?_
            obtain ⟨v13, hv13, hF⟩ := nm_e2 hF
            refine R_iinc (pc := 67) (lv' := [(3, .int v13), (2, .int (0 : Int32)), (4, .int r5), (0, .ref (ad 35)), (1, .ref (ad px1))]) h 4 rfl (by decide) hv13 (by decide) rfl dX2_read_67 ?_
            refine R_goto (pc := 70) (tgt := 9) h dX2_read_70 (by decide) ?_
            exact Wp_sub (nX := 0) (lv' := [(0, .ref (ad 35)), (1, .ref (ad px1)), (2, .int (0 : Int32)), (3, .int v13)]) [3, 4, 1, 0] rfl (ih _ _ _ _ hF)
theorem w2_read_9 {ad : Nat → Nat} {X : XX} {R : Mem} {fu : Nat}  (h : Cx layC ad X cX2_read RX2 5 3 none (R) none)  {f : Nat} {px1 : Nat} {x2 : Int32} {x3 : Int32} {M : Mem} (hF : f2_read_9 fu f px1 x2 x3 M = some R) : Wp layC ad X M 9 [(0, .ref (ad 35)), (1, .ref (ad px1)), (2, .int x2), (3, .int x3)] [] := w2_readi_9 h  f _ _ _ _ hF
def f2_read (fu : Nat) (p1 : Nat) (M : Mem) : Option (Mem) :=
    nm (sI M 35 0 (0 : Int32)) fun M1 =>
    (f2_read_9 fu fu p1 (0 : Int32) (0 : Int32) M1)
set_option maxHeartbeats 4000000 in
set_option maxRecDepth 10000 in
theorem w2_read {ad : Nat → Nat} {X : XX} {R : Mem} {fu : Nat} (h : Cx layC ad X cX2_read RX2 5 3 none (R) none) {p1 : Nat} {M : Mem} (hF : f2_read fu p1 M = some R) : Wp layC ad X M 0 [(0, .ref (ad 35)), (1, .ref (ad p1))] [] := by
  unfold f2_read at hF
  refine R_aload_n (pc := 0) h 0 rfl rfl dX2_read_0 ?_
  refine R_iconst (pc := 1) (v := 0) h (by decide) dX2_read_1 ?_
  obtain ⟨M1, hM1, hF⟩ := nm_e2 hF
  refine R_putI (pc := 2) h hM1 fpX2_9 lc_35 rfl dX2_read_2 ?_
  refine R_iconst (pc := 5) (v := 0) h (by decide) dX2_read_5 ?_
  refine R_istore_n (pc := 6) (lv' := [(2, .int (0 : Int32)), (0, .ref (ad 35)), (1, .ref (ad p1))]) h rfl rfl (by decide) rfl dX2_read_6 ?_
  refine R_iconst (pc := 7) (v := 0) h (by decide) dX2_read_7 ?_
  refine R_istore_n (pc := 8) (lv' := [(3, .int (0 : Int32)), (2, .int (0 : Int32)), (0, .ref (ad 35)), (1, .ref (ad p1))]) h rfl rfl (by decide) rfl dX2_read_8 ?_
  exact Wp_sub (nX := 0) (lv' := [(0, .ref (ad 35)), (1, .ref (ad p1)), (2, .int (0 : Int32)), (3, .int (0 : Int32))]) [2, 3, 1, 0] rfl (w2_read_9 h  (hF := hF))
theorem c2_read {ad : Nat → Nat} {z : ZZ} {R : Mem} {fu : Nat} {p1 : Nat} {M : Mem} (hF : f2_read fu p1 M = some R) : Con layC ad z yX2_read cX2_read 5 none 3 M [.ref (ad 35), .ref (ad p1)] (R) none := con_of (own := RX2) (lv := [(0, .ref (ad 35)), (1, .ref (ad p1))]) (by decide +kernel) rfl (Nat.le_of_ble_eq_true rfl) rfl (fun X hz h => w2_read h hF)
def f2_all (M : Mem) : Option (Int32) :=
    (some (((1 : Int32) <<< ((M.1 35 0) &&& 31)) - (1 : Int32)))
set_option maxHeartbeats 4000000 in
set_option maxRecDepth 10000 in
theorem w2_all {ad : Nat → Nat} {X : XX} {R : Int32} {M : Mem} (h : Cx layC ad X cX2_all RX2 1 1 (some .int) M (some (.int R)))  (hF : f2_all M = some R) : Wp layC ad X M 0 [(0, .ref (ad 35))] [] := by
  unfold f2_all at hF
  refine R_iconst (pc := 0) (v := 1) h (by decide) dX2_all_0 ?_
  refine R_aload_n (pc := 1) h 0 rfl rfl dX2_all_1 ?_
  refine R_getI (pc := 2) h flX2_9 lc_35 rfl dX2_all_2 ?_
  refine R_ishl (pc := 5) h dX2_all_5 ?_
  refine R_iconst (pc := 6) (v := 1) h (by decide) dX2_all_6 ?_
  refine R_isub (pc := 7) h dX2_all_7 ?_
  cases hF
  exact R_ireturn (pc := 8) h rfl rfl rfl dX2_all_8
theorem c2_all {ad : Nat → Nat} {z : ZZ} {R : Int32} {M : Mem}  (hF : f2_all M = some R) : Con layC ad z yX2_all cX2_all 1 (some .int) 1 M [.ref (ad 35)] (M) (some (.int R)) := con_of (own := RX2) (lv := [(0, .ref (ad 35))]) (by decide +kernel) rfl (Nat.le_of_ble_eq_true rfl) rfl (fun X hz h => w2_all h hF)
end
