section
-- ===== PART A: goes FIRST, ahead of the names: the tables' words, and 'selects' of the private methods out of them =====
/-- a private method of a class that the tables say can be made, by its rows of tables_1 -/
def lw_okq (q : MethodName × Nat) : Prop := (q.1.cls ≠ "java/lang/invoke/MethodHandle" ∧ q.1.cls ≠ "java/lang/invoke/VarHandle") ∧ Cond.instantiable q.1.cls q.2 ∈ tables_1 ∧ Cond.privateMethod q.1 ∈ tables_1 ∧ Cond.instanceMethod q.1 ∈ tables_1
theorem lw_p0 : lw_okq (⟨"PraisedFields$Tape", "nextToken", "()V"⟩, 9) := ⟨⟨by decide +kernel, by decide +kernel⟩, List.mem_of_getElem? (i := 96) (by decide +kernel), List.mem_of_getElem? (i := 275) (by decide +kernel), List.mem_of_getElem? (i := 276) (by decide +kernel)⟩
theorem lw_p1 : lw_okq (⟨"PraisedFields$Tape", "stretch", "(II)I"⟩, 9) := ⟨⟨by decide +kernel, by decide +kernel⟩, List.mem_of_getElem? (i := 96) (by decide +kernel), List.mem_of_getElem? (i := 279) (by decide +kernel), List.mem_of_getElem? (i := 280) (by decide +kernel)⟩
theorem lw_p2 : lw_okq (⟨"PraisedFields$Tape", "readNumber", "(I)V"⟩, 9) := ⟨⟨by decide +kernel, by decide +kernel⟩, List.mem_of_getElem? (i := 96) (by decide +kernel), List.mem_of_getElem? (i := 283) (by decide +kernel), List.mem_of_getElem? (i := 284) (by decide +kernel)⟩
theorem lw_p3 : lw_okq (⟨"PraisedFields$Tape", "takeLine", "(LPraisedFields$Land;)Z"⟩, 9) := ⟨⟨by decide +kernel, by decide +kernel⟩, List.mem_of_getElem? (i := 96) (by decide +kernel), List.mem_of_getElem? (i := 290) (by decide +kernel), List.mem_of_getElem? (i := 291) (by decide +kernel)⟩
theorem lw_p4 : lw_okq (⟨"PraisedFields$Tape", "isToken", "(I)Z"⟩, 9) := ⟨⟨by decide +kernel, by decide +kernel⟩, List.mem_of_getElem? (i := 96) (by decide +kernel), List.mem_of_getElem? (i := 294) (by decide +kernel), List.mem_of_getElem? (i := 295) (by decide +kernel)⟩
theorem lw_p5 : lw_okq (⟨"PraisedFields$Tape", "refuse", "(II)Z"⟩, 9) := ⟨⟨by decide +kernel, by decide +kernel⟩, List.mem_of_getElem? (i := 96) (by decide +kernel), List.mem_of_getElem? (i := 298) (by decide +kernel), List.mem_of_getElem? (i := 299) (by decide +kernel)⟩
theorem lw_p6 : lw_okq (⟨"PraisedFields$Tape", "lineBegun", "()I"⟩, 9) := ⟨⟨by decide +kernel, by decide +kernel⟩, List.mem_of_getElem? (i := 96) (by decide +kernel), List.mem_of_getElem? (i := 302) (by decide +kernel), List.mem_of_getElem? (i := 303) (by decide +kernel)⟩
theorem lw_p7 : lw_okq (⟨"PraisedFields$Tape", "isNamed", "(Ljava/lang/String;)Z"⟩, 9) := ⟨⟨by decide +kernel, by decide +kernel⟩, List.mem_of_getElem? (i := 96) (by decide +kernel), List.mem_of_getElem? (i := 307) (by decide +kernel), List.mem_of_getElem? (i := 308) (by decide +kernel)⟩
theorem lw_p8 : lw_okq (⟨"PraisedFields$Tape", "takeGlut", "(LPraisedFields$Land;)Z"⟩, 9) := ⟨⟨by decide +kernel, by decide +kernel⟩, List.mem_of_getElem? (i := 96) (by decide +kernel), List.mem_of_getElem? (i := 364) (by decide +kernel), List.mem_of_getElem? (i := 365) (by decide +kernel)⟩
theorem lw_p9 : lw_okq (⟨"PraisedFields$Tape", "takeNumber", "(II)Z"⟩, 9) := ⟨⟨by decide +kernel, by decide +kernel⟩, List.mem_of_getElem? (i := 96) (by decide +kernel), List.mem_of_getElem? (i := 368) (by decide +kernel), List.mem_of_getElem? (i := 369) (by decide +kernel)⟩
theorem lw_p10 : lw_okq (⟨"PraisedFields$Tape", "takeSemicolon", "()Z"⟩, 9) := ⟨⟨by decide +kernel, by decide +kernel⟩, List.mem_of_getElem? (i := 96) (by decide +kernel), List.mem_of_getElem? (i := 373) (by decide +kernel), List.mem_of_getElem? (i := 374) (by decide +kernel)⟩
theorem lw_p11 : lw_okq (⟨"PraisedFields$Tape", "takeBand", "(LPraisedFields$Land;)Z"⟩, 9) := ⟨⟨by decide +kernel, by decide +kernel⟩, List.mem_of_getElem? (i := 96) (by decide +kernel), List.mem_of_getElem? (i := 377) (by decide +kernel), List.mem_of_getElem? (i := 378) (by decide +kernel)⟩
theorem lw_p12 : lw_okq (⟨"PraisedFields$Tape", "takeField", "(LPraisedFields$Land;I)Z"⟩, 9) := ⟨⟨by decide +kernel, by decide +kernel⟩, List.mem_of_getElem? (i := 96) (by decide +kernel), List.mem_of_getElem? (i := 385) (by decide +kernel), List.mem_of_getElem? (i := 386) (by decide +kernel)⟩
theorem lw_p13 : lw_okq (⟨"PraisedFields", "isField", "(I)Z"⟩, 10) := ⟨⟨by decide +kernel, by decide +kernel⟩, List.mem_of_getElem? (i := 16) (by decide +kernel), List.mem_of_getElem? (i := 423) (by decide +kernel), List.mem_of_getElem? (i := 424) (by decide +kernel)⟩
theorem lw_p14 : lw_okq (⟨"PraisedFields", "isBand", "(I)Z"⟩, 10) := ⟨⟨by decide +kernel, by decide +kernel⟩, List.mem_of_getElem? (i := 16) (by decide +kernel), List.mem_of_getElem? (i := 441) (by decide +kernel), List.mem_of_getElem? (i := 442) (by decide +kernel)⟩
theorem lw_p15 : lw_okq (⟨"PraisedFields$Orders", "weigh", "(LPraisedFields$Land;)V"⟩, 6) := ⟨⟨by decide +kernel, by decide +kernel⟩, List.mem_of_getElem? (i := 135) (by decide +kernel), List.mem_of_getElem? (i := 538) (by decide +kernel), List.mem_of_getElem? (i := 539) (by decide +kernel)⟩
def lw_privs_1 : List (MethodName × Nat) := [(⟨"PraisedFields$Tape", "nextToken", "()V"⟩, 9), (⟨"PraisedFields$Tape", "stretch", "(II)I"⟩, 9), (⟨"PraisedFields$Tape", "readNumber", "(I)V"⟩, 9), (⟨"PraisedFields$Tape", "takeLine", "(LPraisedFields$Land;)Z"⟩, 9), (⟨"PraisedFields$Tape", "isToken", "(I)Z"⟩, 9), (⟨"PraisedFields$Tape", "refuse", "(II)Z"⟩, 9), (⟨"PraisedFields$Tape", "lineBegun", "()I"⟩, 9), (⟨"PraisedFields$Tape", "isNamed", "(Ljava/lang/String;)Z"⟩, 9), (⟨"PraisedFields$Tape", "takeGlut", "(LPraisedFields$Land;)Z"⟩, 9), (⟨"PraisedFields$Tape", "takeNumber", "(II)Z"⟩, 9), (⟨"PraisedFields$Tape", "takeSemicolon", "()Z"⟩, 9), (⟨"PraisedFields$Tape", "takeBand", "(LPraisedFields$Land;)Z"⟩, 9), (⟨"PraisedFields$Tape", "takeField", "(LPraisedFields$Land;I)Z"⟩, 9), (⟨"PraisedFields", "isField", "(I)Z"⟩, 10), (⟨"PraisedFields", "isBand", "(I)Z"⟩, 10), (⟨"PraisedFields$Orders", "weigh", "(LPraisedFields$Land;)V"⟩, 6)]
theorem lw_r1 : ∀ q ∈ lw_privs_1, lw_okq q := List.forall_mem_cons.mpr ⟨lw_p0, List.forall_mem_cons.mpr ⟨lw_p1, List.forall_mem_cons.mpr ⟨lw_p2, List.forall_mem_cons.mpr ⟨lw_p3, List.forall_mem_cons.mpr ⟨lw_p4, List.forall_mem_cons.mpr ⟨lw_p5, List.forall_mem_cons.mpr ⟨lw_p6, List.forall_mem_cons.mpr ⟨lw_p7, List.forall_mem_cons.mpr ⟨lw_p8, List.forall_mem_cons.mpr ⟨lw_p9, List.forall_mem_cons.mpr ⟨lw_p10, List.forall_mem_cons.mpr ⟨lw_p11, List.forall_mem_cons.mpr ⟨lw_p12, List.forall_mem_cons.mpr ⟨lw_p13, List.forall_mem_cons.mpr ⟨lw_p14, List.forall_mem_cons.mpr ⟨lw_p15, fun _ h => absurd h List.not_mem_nil⟩⟩⟩⟩⟩⟩⟩⟩⟩⟩⟩⟩⟩⟩⟩⟩
theorem lw_p16 : lw_okq (⟨"PraisedFields$Orders", "beginRows", "(LPraisedFields$Land;)V"⟩, 6) := ⟨⟨by decide +kernel, by decide +kernel⟩, List.mem_of_getElem? (i := 135) (by decide +kernel), List.mem_of_getElem? (i := 543) (by decide +kernel), List.mem_of_getElem? (i := 544) (by decide +kernel)⟩
theorem lw_p17 : lw_okq (⟨"PraisedFields$Orders", "nextRow", "(LPraisedFields$Land;)V"⟩, 6) := ⟨⟨by decide +kernel, by decide +kernel⟩, List.mem_of_getElem? (i := 135) (by decide +kernel), List.mem_of_getElem? (i := 548) (by decide +kernel), List.mem_of_getElem? (i := 549) (by decide +kernel)⟩
theorem lw_p18 : lw_okq (⟨"PraisedFields$Orders", "place", "(II)V"⟩, 6) := ⟨⟨by decide +kernel, by decide +kernel⟩, List.mem_of_getElem? (i := 135) (by decide +kernel), List.mem_of_getElem? (i := 552) (by decide +kernel), List.mem_of_getElem? (i := 553) (by decide +kernel)⟩
theorem lw_p19 : lw_okq (⟨"PraisedFields$Orders", "toggle", "(II)V"⟩, 6) := ⟨⟨by decide +kernel, by decide +kernel⟩, List.mem_of_getElem? (i := 135) (by decide +kernel), List.mem_of_getElem? (i := 556) (by decide +kernel), List.mem_of_getElem? (i := 557) (by decide +kernel)⟩
theorem lw_p20 : lw_okq (⟨"PraisedFields", "sheavesWithout", "(II)I"⟩, 10) := ⟨⟨by decide +kernel, by decide +kernel⟩, List.mem_of_getElem? (i := 16) (by decide +kernel), List.mem_of_getElem? (i := 577) (by decide +kernel), List.mem_of_getElem? (i := 578) (by decide +kernel)⟩
theorem lw_p21 : lw_okq (⟨"PraisedFields$Hail", "part", "(I)V"⟩, 4) := ⟨⟨by decide +kernel, by decide +kernel⟩, List.mem_of_getElem? (i := 162) (by decide +kernel), List.mem_of_getElem? (i := 608) (by decide +kernel), List.mem_of_getElem? (i := 609) (by decide +kernel)⟩
theorem lw_p22 : lw_okq (⟨"PraisedFields$Hail", "passWeek", "(II)V"⟩, 4) := ⟨⟨by decide +kernel, by decide +kernel⟩, List.mem_of_getElem? (i := 162) (by decide +kernel), List.mem_of_getElem? (i := 613) (by decide +kernel), List.mem_of_getElem? (i := 614) (by decide +kernel)⟩
theorem lw_p23 : lw_okq (⟨"PraisedFields", "blightsAsSeen", "(I)I"⟩, 10) := ⟨⟨by decide +kernel, by decide +kernel⟩, List.mem_of_getElem? (i := 16) (by decide +kernel), List.mem_of_getElem? (i := 662) (by decide +kernel), List.mem_of_getElem? (i := 663) (by decide +kernel)⟩
theorem lw_p24 : lw_okq (⟨"PraisedFieldsModel", "firstDraft", "()V"⟩, 29) := ⟨⟨by decide +kernel, by decide +kernel⟩, List.mem_of_getElem? (i := 749) (by decide +kernel), List.mem_of_getElem? (i := 755) (by decide +kernel), List.mem_of_getElem? (i := 756) (by decide +kernel)⟩
theorem lw_p25 : lw_okq (⟨"PraisedFieldsModel", "keepDraft", "()V"⟩, 29) := ⟨⟨by decide +kernel, by decide +kernel⟩, List.mem_of_getElem? (i := 749) (by decide +kernel), List.mem_of_getElem? (i := 759) (by decide +kernel), List.mem_of_getElem? (i := 760) (by decide +kernel)⟩
theorem lw_p26 : lw_okq (⟨"PraisedFieldsModel", "reads", "()V"⟩, 29) := ⟨⟨by decide +kernel, by decide +kernel⟩, List.mem_of_getElem? (i := 749) (by decide +kernel), List.mem_of_getElem? (i := 867) (by decide +kernel), List.mem_of_getElem? (i := 868) (by decide +kernel)⟩
theorem lw_p27 : lw_okq (⟨"PraisedFieldsModel", "byteAt", "(I)I"⟩, 29) := ⟨⟨by decide +kernel, by decide +kernel⟩, List.mem_of_getElem? (i := 749) (by decide +kernel), List.mem_of_getElem? (i := 871) (by decide +kernel), List.mem_of_getElem? (i := 872) (by decide +kernel)⟩
theorem lw_p28 : lw_okq (⟨"PraisedFieldsModel", "requires", "(ZI)V"⟩, 29) := ⟨⟨by decide +kernel, by decide +kernel⟩, List.mem_of_getElem? (i := 749) (by decide +kernel), List.mem_of_getElem? (i := 879) (by decide +kernel), List.mem_of_getElem? (i := 880) (by decide +kernel)⟩
theorem lw_p29 : lw_okq (⟨"PraisedFieldsModel", "readLine", "()V"⟩, 29) := ⟨⟨by decide +kernel, by decide +kernel⟩, List.mem_of_getElem? (i := 749) (by decide +kernel), List.mem_of_getElem? (i := 883) (by decide +kernel), List.mem_of_getElem? (i := 884) (by decide +kernel)⟩
theorem lw_p30 : lw_okq (⟨"PraisedFieldsModel", "lineNow", "()I"⟩, 29) := ⟨⟨by decide +kernel, by decide +kernel⟩, List.mem_of_getElem? (i := 749) (by decide +kernel), List.mem_of_getElem? (i := 887) (by decide +kernel), List.mem_of_getElem? (i := 888) (by decide +kernel)⟩
theorem lw_p31 : lw_okq (⟨"PraisedFieldsModel", "is", "(IIII)Z"⟩, 29) := ⟨⟨by decide +kernel, by decide +kernel⟩, List.mem_of_getElem? (i := 749) (by decide +kernel), List.mem_of_getElem? (i := 891) (by decide +kernel), List.mem_of_getElem? (i := 892) (by decide +kernel)⟩
def lw_privs_2 : List (MethodName × Nat) := [(⟨"PraisedFields$Orders", "beginRows", "(LPraisedFields$Land;)V"⟩, 6), (⟨"PraisedFields$Orders", "nextRow", "(LPraisedFields$Land;)V"⟩, 6), (⟨"PraisedFields$Orders", "place", "(II)V"⟩, 6), (⟨"PraisedFields$Orders", "toggle", "(II)V"⟩, 6), (⟨"PraisedFields", "sheavesWithout", "(II)I"⟩, 10), (⟨"PraisedFields$Hail", "part", "(I)V"⟩, 4), (⟨"PraisedFields$Hail", "passWeek", "(II)V"⟩, 4), (⟨"PraisedFields", "blightsAsSeen", "(I)I"⟩, 10), (⟨"PraisedFieldsModel", "firstDraft", "()V"⟩, 29), (⟨"PraisedFieldsModel", "keepDraft", "()V"⟩, 29), (⟨"PraisedFieldsModel", "reads", "()V"⟩, 29), (⟨"PraisedFieldsModel", "byteAt", "(I)I"⟩, 29), (⟨"PraisedFieldsModel", "requires", "(ZI)V"⟩, 29), (⟨"PraisedFieldsModel", "readLine", "()V"⟩, 29), (⟨"PraisedFieldsModel", "lineNow", "()I"⟩, 29), (⟨"PraisedFieldsModel", "is", "(IIII)Z"⟩, 29)]
theorem lw_r2 : ∀ q ∈ lw_privs_2, lw_okq q := List.forall_mem_cons.mpr ⟨lw_p16, List.forall_mem_cons.mpr ⟨lw_p17, List.forall_mem_cons.mpr ⟨lw_p18, List.forall_mem_cons.mpr ⟨lw_p19, List.forall_mem_cons.mpr ⟨lw_p20, List.forall_mem_cons.mpr ⟨lw_p21, List.forall_mem_cons.mpr ⟨lw_p22, List.forall_mem_cons.mpr ⟨lw_p23, List.forall_mem_cons.mpr ⟨lw_p24, List.forall_mem_cons.mpr ⟨lw_p25, List.forall_mem_cons.mpr ⟨lw_p26, List.forall_mem_cons.mpr ⟨lw_p27, List.forall_mem_cons.mpr ⟨lw_p28, List.forall_mem_cons.mpr ⟨lw_p29, List.forall_mem_cons.mpr ⟨lw_p30, List.forall_mem_cons.mpr ⟨lw_p31, fun _ h => absurd h List.not_mem_nil⟩⟩⟩⟩⟩⟩⟩⟩⟩⟩⟩⟩⟩⟩⟩⟩
theorem lw_p32 : lw_okq (⟨"PraisedFieldsModel", "endsIn", "(II)Z"⟩, 29) := ⟨⟨by decide +kernel, by decide +kernel⟩, List.mem_of_getElem? (i := 749) (by decide +kernel), List.mem_of_getElem? (i := 895) (by decide +kernel), List.mem_of_getElem? (i := 896) (by decide +kernel)⟩
theorem lw_p33 : lw_okq (⟨"PraisedFieldsModel", "readLineOf", "(I)V"⟩, 29) := ⟨⟨by decide +kernel, by decide +kernel⟩, List.mem_of_getElem? (i := 749) (by decide +kernel), List.mem_of_getElem? (i := 899) (by decide +kernel), List.mem_of_getElem? (i := 900) (by decide +kernel)⟩
theorem lw_p34 : lw_okq (⟨"PraisedFieldsModel", "readBand", "()V"⟩, 29) := ⟨⟨by decide +kernel, by decide +kernel⟩, List.mem_of_getElem? (i := 749) (by decide +kernel), List.mem_of_getElem? (i := 903) (by decide +kernel), List.mem_of_getElem? (i := 904) (by decide +kernel)⟩
theorem lw_p35 : lw_okq (⟨"PraisedFieldsModel", "readNumber", "(II)I"⟩, 29) := ⟨⟨by decide +kernel, by decide +kernel⟩, List.mem_of_getElem? (i := 749) (by decide +kernel), List.mem_of_getElem? (i := 907) (by decide +kernel), List.mem_of_getElem? (i := 908) (by decide +kernel)⟩
theorem lw_p36 : lw_okq (⟨"PraisedFieldsModel", "starts", "()V"⟩, 29) := ⟨⟨by decide +kernel, by decide +kernel⟩, List.mem_of_getElem? (i := 749) (by decide +kernel), List.mem_of_getElem? (i := 919) (by decide +kernel), List.mem_of_getElem? (i := 920) (by decide +kernel)⟩
theorem lw_p37 : lw_okq (⟨"PraisedFieldsModel", "heardAt", "(I)I"⟩, 29) := ⟨⟨by decide +kernel, by decide +kernel⟩, List.mem_of_getElem? (i := 749) (by decide +kernel), List.mem_of_getElem? (i := 923) (by decide +kernel), List.mem_of_getElem? (i := 924) (by decide +kernel)⟩
theorem lw_p38 : lw_okq (⟨"PraisedFieldsModel", "ofBand", "(II)I"⟩, 29) := ⟨⟨by decide +kernel, by decide +kernel⟩, List.mem_of_getElem? (i := 749) (by decide +kernel), List.mem_of_getElem? (i := 927) (by decide +kernel), List.mem_of_getElem? (i := 928) (by decide +kernel)⟩
theorem lw_p39 : lw_okq (⟨"PraisedFieldsModel", "sumOf", "(I)I"⟩, 29) := ⟨⟨by decide +kernel, by decide +kernel⟩, List.mem_of_getElem? (i := 749) (by decide +kernel), List.mem_of_getElem? (i := 934) (by decide +kernel), List.mem_of_getElem? (i := 935) (by decide +kernel)⟩
theorem lw_p40 : lw_okq (⟨"PraisedFieldsModel", "of", "(II)I"⟩, 29) := ⟨⟨by decide +kernel, by decide +kernel⟩, List.mem_of_getElem? (i := 749) (by decide +kernel), List.mem_of_getElem? (i := 938) (by decide +kernel), List.mem_of_getElem? (i := 939) (by decide +kernel)⟩
theorem lw_p41 : lw_okq (⟨"PraisedFieldsModel", "isField", "(I)Z"⟩, 29) := ⟨⟨by decide +kernel, by decide +kernel⟩, List.mem_of_getElem? (i := 749) (by decide +kernel), List.mem_of_getElem? (i := 946) (by decide +kernel), List.mem_of_getElem? (i := 947) (by decide +kernel)⟩
theorem lw_p42 : lw_okq (⟨"PraisedFieldsModel", "growsBy", "(I)I"⟩, 29) := ⟨⟨by decide +kernel, by decide +kernel⟩, List.mem_of_getElem? (i := 749) (by decide +kernel), List.mem_of_getElem? (i := 950) (by decide +kernel), List.mem_of_getElem? (i := 951) (by decide +kernel)⟩
theorem lw_p43 : lw_okq (⟨"PraisedFieldsModel", "heeds", "(I)I"⟩, 29) := ⟨⟨by decide +kernel, by decide +kernel⟩, List.mem_of_getElem? (i := 749) (by decide +kernel), List.mem_of_getElem? (i := 954) (by decide +kernel), List.mem_of_getElem? (i := 955) (by decide +kernel)⟩
theorem lw_p44 : lw_okq (⟨"PraisedFieldsModel", "isBand", "(I)Z"⟩, 29) := ⟨⟨by decide +kernel, by decide +kernel⟩, List.mem_of_getElem? (i := 749) (by decide +kernel), List.mem_of_getElem? (i := 962) (by decide +kernel), List.mem_of_getElem? (i := 963) (by decide +kernel)⟩
theorem lw_p45 : lw_okq (⟨"PraisedFieldsModel", "becomes", "(II)I"⟩, 29) := ⟨⟨by decide +kernel, by decide +kernel⟩, List.mem_of_getElem? (i := 749) (by decide +kernel), List.mem_of_getElem? (i := 979) (by decide +kernel), List.mem_of_getElem? (i := 980) (by decide +kernel)⟩
theorem lw_p46 : lw_okq (⟨"PraisedFieldsModel", "earsBehind", "(I)I"⟩, 29) := ⟨⟨by decide +kernel, by decide +kernel⟩, List.mem_of_getElem? (i := 749) (by decide +kernel), List.mem_of_getElem? (i := 1008) (by decide +kernel), List.mem_of_getElem? (i := 1009) (by decide +kernel)⟩
theorem lw_p47 : lw_okq (⟨"PraisedFieldsModel", "weeksGo", "(I)V"⟩, 29) := ⟨⟨by decide +kernel, by decide +kernel⟩, List.mem_of_getElem? (i := 749) (by decide +kernel), List.mem_of_getElem? (i := 1012) (by decide +kernel), List.mem_of_getElem? (i := 1013) (by decide +kernel)⟩
def lw_privs_3 : List (MethodName × Nat) := [(⟨"PraisedFieldsModel", "endsIn", "(II)Z"⟩, 29), (⟨"PraisedFieldsModel", "readLineOf", "(I)V"⟩, 29), (⟨"PraisedFieldsModel", "readBand", "()V"⟩, 29), (⟨"PraisedFieldsModel", "readNumber", "(II)I"⟩, 29), (⟨"PraisedFieldsModel", "starts", "()V"⟩, 29), (⟨"PraisedFieldsModel", "heardAt", "(I)I"⟩, 29), (⟨"PraisedFieldsModel", "ofBand", "(II)I"⟩, 29), (⟨"PraisedFieldsModel", "sumOf", "(I)I"⟩, 29), (⟨"PraisedFieldsModel", "of", "(II)I"⟩, 29), (⟨"PraisedFieldsModel", "isField", "(I)Z"⟩, 29), (⟨"PraisedFieldsModel", "growsBy", "(I)I"⟩, 29), (⟨"PraisedFieldsModel", "heeds", "(I)I"⟩, 29), (⟨"PraisedFieldsModel", "isBand", "(I)Z"⟩, 29), (⟨"PraisedFieldsModel", "becomes", "(II)I"⟩, 29), (⟨"PraisedFieldsModel", "earsBehind", "(I)I"⟩, 29), (⟨"PraisedFieldsModel", "weeksGo", "(I)V"⟩, 29)]
theorem lw_r3 : ∀ q ∈ lw_privs_3, lw_okq q := List.forall_mem_cons.mpr ⟨lw_p32, List.forall_mem_cons.mpr ⟨lw_p33, List.forall_mem_cons.mpr ⟨lw_p34, List.forall_mem_cons.mpr ⟨lw_p35, List.forall_mem_cons.mpr ⟨lw_p36, List.forall_mem_cons.mpr ⟨lw_p37, List.forall_mem_cons.mpr ⟨lw_p38, List.forall_mem_cons.mpr ⟨lw_p39, List.forall_mem_cons.mpr ⟨lw_p40, List.forall_mem_cons.mpr ⟨lw_p41, List.forall_mem_cons.mpr ⟨lw_p42, List.forall_mem_cons.mpr ⟨lw_p43, List.forall_mem_cons.mpr ⟨lw_p44, List.forall_mem_cons.mpr ⟨lw_p45, List.forall_mem_cons.mpr ⟨lw_p46, List.forall_mem_cons.mpr ⟨lw_p47, fun _ h => absurd h List.not_mem_nil⟩⟩⟩⟩⟩⟩⟩⟩⟩⟩⟩⟩⟩⟩⟩⟩
theorem lw_p48 : lw_okq (⟨"PraisedFieldsModel", "weekGoes", "(Z)V"⟩, 29) := ⟨⟨by decide +kernel, by decide +kernel⟩, List.mem_of_getElem? (i := 749) (by decide +kernel), List.mem_of_getElem? (i := 1016) (by decide +kernel), List.mem_of_getElem? (i := 1017) (by decide +kernel)⟩
theorem lw_p49 : lw_okq (⟨"PraisedFieldsModel", "becomesOf", "(III)V"⟩, 29) := ⟨⟨by decide +kernel, by decide +kernel⟩, List.mem_of_getElem? (i := 749) (by decide +kernel), List.mem_of_getElem? (i := 1023) (by decide +kernel), List.mem_of_getElem? (i := 1024) (by decide +kernel)⟩
theorem lw_p50 : lw_okq (⟨"PraisedFieldsModel", "fieldGoes", "(I)V"⟩, 29) := ⟨⟨by decide +kernel, by decide +kernel⟩, List.mem_of_getElem? (i := 749) (by decide +kernel), List.mem_of_getElem? (i := 1027) (by decide +kernel), List.mem_of_getElem? (i := 1028) (by decide +kernel)⟩
theorem lw_p51 : lw_okq (⟨"PraisedFieldsModel", "settles", "()V"⟩, 29) := ⟨⟨by decide +kernel, by decide +kernel⟩, List.mem_of_getElem? (i := 749) (by decide +kernel), List.mem_of_getElem? (i := 1031) (by decide +kernel), List.mem_of_getElem? (i := 1032) (by decide +kernel)⟩
theorem lw_p52 : lw_okq (⟨"PraisedFieldsModel", "emptyNow", "()I"⟩, 29) := ⟨⟨by decide +kernel, by decide +kernel⟩, List.mem_of_getElem? (i := 749) (by decide +kernel), List.mem_of_getElem? (i := 1044) (by decide +kernel), List.mem_of_getElem? (i := 1045) (by decide +kernel)⟩
theorem lw_p53 : lw_okq (⟨"PraisedFieldsModel", "findOrder", "()V"⟩, 29) := ⟨⟨by decide +kernel, by decide +kernel⟩, List.mem_of_getElem? (i := 749) (by decide +kernel), List.mem_of_getElem? (i := 1062) (by decide +kernel), List.mem_of_getElem? (i := 1063) (by decide +kernel)⟩
theorem lw_p54 : lw_okq (⟨"PraisedFieldsModel", "startsJudging", "(I)V"⟩, 29) := ⟨⟨by decide +kernel, by decide +kernel⟩, List.mem_of_getElem? (i := 749) (by decide +kernel), List.mem_of_getElem? (i := 1066) (by decide +kernel), List.mem_of_getElem? (i := 1067) (by decide +kernel)⟩
theorem lw_p55 : lw_okq (⟨"PraisedFieldsModel", "bandBecomes", "(III)V"⟩, 29) := ⟨⟨by decide +kernel, by decide +kernel⟩, List.mem_of_getElem? (i := 749) (by decide +kernel), List.mem_of_getElem? (i := 1070) (by decide +kernel), List.mem_of_getElem? (i := 1071) (by decide +kernel)⟩
theorem lw_p56 : lw_okq (⟨"PraisedFieldsModel", "judges", "(II)V"⟩, 29) := ⟨⟨by decide +kernel, by decide +kernel⟩, List.mem_of_getElem? (i := 749) (by decide +kernel), List.mem_of_getElem? (i := 1074) (by decide +kernel), List.mem_of_getElem? (i := 1075) (by decide +kernel)⟩
theorem lw_p57 : lw_okq (⟨"PraisedFieldsModel", "judged", "(I)I"⟩, 29) := ⟨⟨by decide +kernel, by decide +kernel⟩, List.mem_of_getElem? (i := 749) (by decide +kernel), List.mem_of_getElem? (i := 1082) (by decide +kernel), List.mem_of_getElem? (i := 1083) (by decide +kernel)⟩
theorem lw_p58 : lw_okq (⟨"PraisedFieldsModel", "findOdds", "(IIII)V"⟩, 29) := ⟨⟨by decide +kernel, by decide +kernel⟩, List.mem_of_getElem? (i := 749) (by decide +kernel), List.mem_of_getElem? (i := 1112) (by decide +kernel), List.mem_of_getElem? (i := 1113) (by decide +kernel)⟩
theorem lw_p59 : lw_okq (⟨"PraisedFieldsModel", "which", "(II)I"⟩, 29) := ⟨⟨by decide +kernel, by decide +kernel⟩, List.mem_of_getElem? (i := 749) (by decide +kernel), List.mem_of_getElem? (i := 1139) (by decide +kernel), List.mem_of_getElem? (i := 1140) (by decide +kernel)⟩
theorem lw_p60 : lw_okq (⟨"PraisedFieldsModel", "isSoWith", "(II)Z"⟩, 29) := ⟨⟨by decide +kernel, by decide +kernel⟩, List.mem_of_getElem? (i := 749) (by decide +kernel), List.mem_of_getElem? (i := 1143) (by decide +kernel), List.mem_of_getElem? (i := 1144) (by decide +kernel)⟩
theorem lw_p61 : lw_okq (⟨"PraisedFieldsModel", "copies", "(II)V"⟩, 29) := ⟨⟨by decide +kernel, by decide +kernel⟩, List.mem_of_getElem? (i := 749) (by decide +kernel), List.mem_of_getElem? (i := 1164) (by decide +kernel), List.mem_of_getElem? (i := 1165) (by decide +kernel)⟩
def lw_privs_4 : List (MethodName × Nat) := [(⟨"PraisedFieldsModel", "weekGoes", "(Z)V"⟩, 29), (⟨"PraisedFieldsModel", "becomesOf", "(III)V"⟩, 29), (⟨"PraisedFieldsModel", "fieldGoes", "(I)V"⟩, 29), (⟨"PraisedFieldsModel", "settles", "()V"⟩, 29), (⟨"PraisedFieldsModel", "emptyNow", "()I"⟩, 29), (⟨"PraisedFieldsModel", "findOrder", "()V"⟩, 29), (⟨"PraisedFieldsModel", "startsJudging", "(I)V"⟩, 29), (⟨"PraisedFieldsModel", "bandBecomes", "(III)V"⟩, 29), (⟨"PraisedFieldsModel", "judges", "(II)V"⟩, 29), (⟨"PraisedFieldsModel", "judged", "(I)I"⟩, 29), (⟨"PraisedFieldsModel", "findOdds", "(IIII)V"⟩, 29), (⟨"PraisedFieldsModel", "which", "(II)I"⟩, 29), (⟨"PraisedFieldsModel", "isSoWith", "(II)Z"⟩, 29), (⟨"PraisedFieldsModel", "copies", "(II)V"⟩, 29)]
theorem lw_r4 : ∀ q ∈ lw_privs_4, lw_okq q := List.forall_mem_cons.mpr ⟨lw_p48, List.forall_mem_cons.mpr ⟨lw_p49, List.forall_mem_cons.mpr ⟨lw_p50, List.forall_mem_cons.mpr ⟨lw_p51, List.forall_mem_cons.mpr ⟨lw_p52, List.forall_mem_cons.mpr ⟨lw_p53, List.forall_mem_cons.mpr ⟨lw_p54, List.forall_mem_cons.mpr ⟨lw_p55, List.forall_mem_cons.mpr ⟨lw_p56, List.forall_mem_cons.mpr ⟨lw_p57, List.forall_mem_cons.mpr ⟨lw_p58, List.forall_mem_cons.mpr ⟨lw_p59, List.forall_mem_cons.mpr ⟨lw_p60, List.forall_mem_cons.mpr ⟨lw_p61, fun _ h => absurd h List.not_mem_nil⟩⟩⟩⟩⟩⟩⟩⟩⟩⟩⟩⟩⟩⟩
def lw_privs : List (MethodName × Nat) := lw_privs_1 ++ (lw_privs_2 ++ (lw_privs_3 ++ (lw_privs_4)))
def lw_tbl : List Cond := k2_sels lw_privs ++ tables_1
theorem lw_privs_ok : ∀ q ∈ lw_privs, lw_okq q := by
  show ∀ q ∈ lw_privs_1 ++ (lw_privs_2 ++ (lw_privs_3 ++ (lw_privs_4))), lw_okq q
  exact List.forall_mem_append.mpr ⟨lw_r1, List.forall_mem_append.mpr ⟨lw_r2, List.forall_mem_append.mpr ⟨lw_r3, lw_r4⟩⟩⟩
end
section
def RX0 : String := "PraisedFields$Guesses"
def TX0 : u_T := fun k => match k with
  | 0 => ("PraisedFields$Guesses", "ears", "[I", true)
  | 1 => ("PraisedFields$Guesses", "blight", "[I", true)
  | _ => ("PraisedFields$Guesses", "size", "I", false)
def tyX0 : Nat → FieldType := fun k => match k with
  | 0 => .array .int
  | 1 => .array .int
  | _ => .int
theorem nmX0 : ∀ a, a < 3 → ∀ b, b < 3 → a ≠ b → (TX0 a).2.1 ≠ (TX0 b).2.1 := by decide +kernel
theorem tyX0_ok : ∀ k, k < 3 → parseFieldDescriptor (TX0 k).2.2.1 = some (tyX0 k) := by decide +kernel
abbrev cX0_init : ByteArray := prog_2_method_1_code
def yX0_init : MethodName := ⟨RX0, "<init>", "()V"⟩
abbrev cX0_begin : ByteArray := prog_2_method_2_code
def yX0_begin : MethodName := ⟨RX0, "begin", "(II)V"⟩
abbrev cX0_passWeek : ByteArray := prog_2_method_3_code
def yX0_passWeek : MethodName := ⟨RX0, "passWeek", "(II)V"⟩
abbrev cX0_largestGroup : ByteArray := prog_2_method_4_code
def yX0_largestGroup : MethodName := ⟨RX0, "largestGroup", "()I"⟩
def RX1 : String := "PraisedFields$Hail"
def TX1 : u_T := fun k => match k with
  | 0 => ("PraisedFields$Hail", "ears", "[I", true)
  | 1 => ("PraisedFields$Hail", "blight", "[I", true)
  | 2 => ("PraisedFields$Hail", "weight", "[J", true)
  | _ => ("PraisedFields$Hail", "ways", "I", false)
def tyX1 : Nat → FieldType := fun k => match k with
  | 0 => .array .int
  | 1 => .array .int
  | 2 => .array .long
  | _ => .int
theorem nmX1 : ∀ a, a < 4 → ∀ b, b < 4 → a ≠ b → (TX1 a).2.1 ≠ (TX1 b).2.1 := by decide +kernel
theorem tyX1_ok : ∀ k, k < 4 → parseFieldDescriptor (TX1 k).2.2.1 = some (tyX1 k) := by decide +kernel
abbrev cX1_init : ByteArray := prog_3_method_1_code
def yX1_init : MethodName := ⟨RX1, "<init>", "()V"⟩
abbrev cX1_fallOn : ByteArray := prog_3_method_2_code
def yX1_fallOn : MethodName := ⟨RX1, "fallOn", "(LPraisedFields$Land;III)V"⟩
abbrev cX1_part : ByteArray := prog_3_method_3_code
def yX1_part : MethodName := ⟨RX1, "part", "(I)V"⟩
abbrev cX1_passWeek : ByteArray := prog_3_method_4_code
def yX1_passWeek : MethodName := ⟨RX1, "passWeek", "(II)V"⟩
abbrev cX1_weightOf : ByteArray := prog_3_method_5_code
def yX1_weightOf : MethodName := ⟨RX1, "weightOf", "(I)J"⟩
abbrev cX1_weighedEars : ByteArray := prog_3_method_6_code
def yX1_weighedEars : MethodName := ⟨RX1, "weighedEars", "()J"⟩
def RX2 : String := "PraisedFields$Land"
def TX2 : u_T := fun k => match k with
  | 0 => ("PraisedFields$Land", "kindOf", "[I", true)
  | 1 => ("PraisedFields$Land", "ears", "[I", true)
  | 2 => ("PraisedFields$Land", "blight", "[I", true)
  | 3 => ("PraisedFields$Land", "at", "[I", true)
  | 4 => ("PraisedFields$Land", "loud", "[I", true)
  | 5 => ("PraisedFields$Land", "seenWeeks", "[I", true)
  | 6 => ("PraisedFields$Land", "seenField", "[I", true)
  | 7 => ("PraisedFields$Land", "seenEars", "[I", true)
  | 8 => ("PraisedFields$Land", "fieldCount", "I", false)
  | 9 => ("PraisedFields$Land", "bandCount", "I", false)
  | 10 => ("PraisedFields$Land", "seenCount", "I", false)
  | 11 => ("PraisedFields$Land", "glutFrom", "I", false)
  | 12 => ("PraisedFields$Land", "sheaves", "I", false)
  | _ => ("PraisedFields$Land", "week", "I", false)
def tyX2 : Nat → FieldType := fun k => match k with
  | 0 => .array .int
  | 1 => .array .int
  | 2 => .array .int
  | 3 => .array .int
  | 4 => .array .int
  | 5 => .array .int
  | 6 => .array .int
  | 7 => .array .int
  | 8 => .int
  | 9 => .int
  | 10 => .int
  | 11 => .int
  | 12 => .int
  | _ => .int
theorem nmX2 : ∀ a, a < 14 → ∀ b, b < 14 → a ≠ b → (TX2 a).2.1 ≠ (TX2 b).2.1 := by decide +kernel
theorem tyX2_ok : ∀ k, k < 14 → parseFieldDescriptor (TX2 k).2.2.1 = some (tyX2 k) := by decide +kernel
abbrev cX2_init : ByteArray := prog_4_method_1_code
def yX2_init : MethodName := ⟨RX2, "<init>", "()V"⟩
abbrev cX2_clear : ByteArray := prog_4_method_2_code
def yX2_clear : MethodName := ⟨RX2, "clear", "()V"⟩
abbrev cX2_copyFrom : ByteArray := prog_4_method_3_code
def yX2_copyFrom : MethodName := ⟨RX2, "copyFrom", "(LPraisedFields$Land;)V"⟩
abbrev cX2_addField : ByteArray := prog_4_method_4_code
def yX2_addField : MethodName := ⟨RX2, "addField", "(III)Z"⟩
abbrev cX2_addBand : ByteArray := prog_4_method_5_code
def yX2_addBand : MethodName := ⟨RX2, "addBand", "(II)Z"⟩
abbrev cX2_addSeen : ByteArray := prog_4_method_6_code
def yX2_addSeen : MethodName := ⟨RX2, "addSeen", "(III)Z"⟩
abbrev cX2_heardAt : ByteArray := prog_4_method_7_code
def yX2_heardAt : MethodName := ⟨RX2, "heardAt", "(I)I"⟩
abbrev cX2_hearingFields : ByteArray := prog_4_method_8_code
def yX2_hearingFields : MethodName := ⟨RX2, "hearingFields", "()I"⟩
abbrev cX2_earlessFields : ByteArray := prog_4_method_9_code
def yX2_earlessFields : MethodName := ⟨RX2, "earlessFields", "()I"⟩
abbrev cX2_allEars : ByteArray := prog_4_method_10_code
def yX2_allEars : MethodName := ⟨RX2, "allEars", "()I"⟩
abbrev cX2_allBlight : ByteArray := prog_4_method_11_code
def yX2_allBlight : MethodName := ⟨RX2, "allBlight", "()I"⟩
abbrev cX2_allLoud : ByteArray := prog_4_method_12_code
def yX2_allLoud : MethodName := ⟨RX2, "allLoud", "()I"⟩
abbrev cX2_sumOf : ByteArray := prog_4_method_13_code
def yX2_sumOf : MethodName := ⟨RX2, "sumOf", "([II)I"⟩
abbrev cX2_passWeek : ByteArray := prog_4_method_14_code
def yX2_passWeek : MethodName := ⟨RX2, "passWeek", "()I"⟩
abbrev cX2_passWeeks : ByteArray := prog_4_method_15_code
def yX2_passWeeks : MethodName := ⟨RX2, "passWeeks", "(I)I"⟩
abbrev cX2_earsIf : ByteArray := prog_4_method_16_code
def yX2_earsIf : MethodName := ⟨RX2, "earsIf", "(III)I"⟩
abbrev cX2_gainBy : ByteArray := prog_4_method_17_code
def yX2_gainBy : MethodName := ⟨RX2, "gainBy", "(III)I"⟩
abbrev cX2_allEarsBehind : ByteArray := prog_4_method_18_code
def yX2_allEarsBehind : MethodName := ⟨RX2, "allEarsBehind", "(I)I"⟩
abbrev cX2_isAsSeen : ByteArray := prog_4_method_19_code
def yX2_isAsSeen : MethodName := ⟨RX2, "isAsSeen", "(III)Z"⟩
def RX3 : String := "PraisedFields$Orders"
def TX3 : u_T := fun k => match k with
  | 0 => ("PraisedFields$Orders", "earsBy", "[I", true)
  | 1 => ("PraisedFields$Orders", "setAt", "[I", true)
  | 2 => ("PraisedFields$Orders", "row", "[I", true)
  | 3 => ("PraisedFields$Orders", "bestRow", "[I", true)
  | 4 => ("PraisedFields$Orders", "total", "I", false)
  | _ => ("PraisedFields$Orders", "best", "I", false)
def tyX3 : Nat → FieldType := fun k => match k with
  | 0 => .array .int
  | 1 => .array .int
  | 2 => .array .int
  | 3 => .array .int
  | 4 => .int
  | _ => .int
theorem nmX3 : ∀ a, a < 6 → ∀ b, b < 6 → a ≠ b → (TX3 a).2.1 ≠ (TX3 b).2.1 := by decide +kernel
theorem tyX3_ok : ∀ k, k < 6 → parseFieldDescriptor (TX3 k).2.2.1 = some (tyX3 k) := by decide +kernel
abbrev cX3_init : ByteArray := prog_5_method_1_code
def yX3_init : MethodName := ⟨RX3, "<init>", "()V"⟩
abbrev cX3_findBest : ByteArray := prog_5_method_2_code
def yX3_findBest : MethodName := ⟨RX3, "findBest", "(LPraisedFields$Land;)V"⟩
abbrev cX3_weigh : ByteArray := prog_5_method_3_code
def yX3_weigh : MethodName := ⟨RX3, "weigh", "(LPraisedFields$Land;)V"⟩
abbrev cX3_beginRows : ByteArray := prog_5_method_4_code
def yX3_beginRows : MethodName := ⟨RX3, "beginRows", "(LPraisedFields$Land;)V"⟩
abbrev cX3_nextRow : ByteArray := prog_5_method_5_code
def yX3_nextRow : MethodName := ⟨RX3, "nextRow", "(LPraisedFields$Land;)V"⟩
abbrev cX3_place : ByteArray := prog_5_method_6_code
def yX3_place : MethodName := ⟨RX3, "place", "(II)V"⟩
abbrev cX3_toggle : ByteArray := prog_5_method_7_code
def yX3_toggle : MethodName := ⟨RX3, "toggle", "(II)V"⟩
def RX4 : String := "PraisedFields$Sheets"
def TX4 : u_T := fun k => match k with
  | 0 => ("PraisedFields$Sheets", "cells", "[I", true)
  | 1 => ("PraisedFields$Sheets", "laneOf", "[I", true)
  | _ => ("PraisedFields$Sheets", "size", "[I", true)
def tyX4 : Nat → FieldType := fun k => match k with
  | 0 => .array .int
  | 1 => .array .int
  | _ => .array .int
theorem nmX4 : ∀ a, a < 3 → ∀ b, b < 3 → a ≠ b → (TX4 a).2.1 ≠ (TX4 b).2.1 := by decide +kernel
theorem tyX4_ok : ∀ k, k < 3 → parseFieldDescriptor (TX4 k).2.2.1 = some (tyX4 k) := by decide +kernel
abbrev cX4_init : ByteArray := prog_6_method_1_code
def yX4_init : MethodName := ⟨RX4, "<init>", "()V"⟩
abbrev cX4_renew : ByteArray := prog_6_method_2_code
def yX4_renew : MethodName := ⟨RX4, "renew", "(III)V"⟩
abbrev cX4_faultAt : ByteArray := prog_6_method_3_code
def yX4_faultAt : MethodName := ⟨RX4, "faultAt", "(III)I"⟩
abbrev cX4_pairFault : ByteArray := prog_6_method_4_code
def yX4_pairFault : MethodName := ⟨RX4, "pairFault", "(III)I"⟩
abbrev cX4_put : ByteArray := prog_6_method_5_code
def yX4_put : MethodName := ⟨RX4, "put", "(III)V"⟩
abbrev cX4_get : ByteArray := prog_6_method_6_code
def yX4_get : MethodName := ⟨RX4, "get", "(II)I"⟩
abbrev cX4_lowestBits : ByteArray := prog_6_method_7_code
def yX4_lowestBits : MethodName := ⟨RX4, "lowestBits", "(II)I"⟩
def RX5 : String := "PraisedFields$Tape"
def TX5 : u_T := fun k => match k with
  | 0 => ("PraisedFields$Tape", "bytes", "[B", true)
  | 1 => ("PraisedFields$Tape", "length", "I", false)
  | 2 => ("PraisedFields$Tape", "fault", "I", false)
  | 3 => ("PraisedFields$Tape", "faultPlace", "I", false)
  | 4 => ("PraisedFields$Tape", "place", "I", false)
  | 5 => ("PraisedFields$Tape", "token", "I", false)
  | 6 => ("PraisedFields$Tape", "start", "I", false)
  | 7 => ("PraisedFields$Tape", "value", "I", false)
  | _ => ("PraisedFields$Tape", "glutTold", "Z", false)
def tyX5 : Nat → FieldType := fun k => match k with
  | 0 => .array .byte
  | 1 => .int
  | 2 => .int
  | 3 => .int
  | 4 => .int
  | 5 => .int
  | 6 => .int
  | 7 => .int
  | _ => .boolean
theorem nmX5 : ∀ a, a < 9 → ∀ b, b < 9 → a ≠ b → (TX5 a).2.1 ≠ (TX5 b).2.1 := by decide +kernel
theorem tyX5_ok : ∀ k, k < 9 → parseFieldDescriptor (TX5 k).2.2.1 = some (tyX5 k) := by decide +kernel
abbrev cX5_init : ByteArray := prog_7_method_1_code
def yX5_init : MethodName := ⟨RX5, "<init>", "()V"⟩
abbrev cX5_append : ByteArray := prog_7_method_2_code
def yX5_append : MethodName := ⟨RX5, "append", "(I)Z"⟩
abbrev cX5_tellAll : ByteArray := prog_7_method_3_code
def yX5_tellAll : MethodName := ⟨RX5, "tellAll", "(LPraisedFields$Land;)I"⟩
abbrev cX5_refuse : ByteArray := prog_7_method_4_code
def yX5_refuse : MethodName := ⟨RX5, "refuse", "(II)Z"⟩
abbrev cX5_takeLine : ByteArray := prog_7_method_5_code
def yX5_takeLine : MethodName := ⟨RX5, "takeLine", "(LPraisedFields$Land;)Z"⟩
abbrev cX5_takeField : ByteArray := prog_7_method_6_code
def yX5_takeField : MethodName := ⟨RX5, "takeField", "(LPraisedFields$Land;I)Z"⟩
abbrev cX5_takeBand : ByteArray := prog_7_method_7_code
def yX5_takeBand : MethodName := ⟨RX5, "takeBand", "(LPraisedFields$Land;)Z"⟩
abbrev cX5_takeGlut : ByteArray := prog_7_method_8_code
def yX5_takeGlut : MethodName := ⟨RX5, "takeGlut", "(LPraisedFields$Land;)Z"⟩
abbrev cX5_takeNumber : ByteArray := prog_7_method_9_code
def yX5_takeNumber : MethodName := ⟨RX5, "takeNumber", "(II)Z"⟩
abbrev cX5_takeSemicolon : ByteArray := prog_7_method_10_code
def yX5_takeSemicolon : MethodName := ⟨RX5, "takeSemicolon", "()Z"⟩
abbrev cX5_isToken : ByteArray := prog_7_method_11_code
def yX5_isToken : MethodName := ⟨RX5, "isToken", "(I)Z"⟩
abbrev cX5_nextToken : ByteArray := prog_7_method_12_code
def yX5_nextToken : MethodName := ⟨RX5, "nextToken", "()V"⟩
abbrev cX5_stretch : ByteArray := prog_7_method_13_code
def yX5_stretch : MethodName := ⟨RX5, "stretch", "(II)I"⟩
abbrev cX5_readNumber : ByteArray := prog_7_method_14_code
def yX5_readNumber : MethodName := ⟨RX5, "readNumber", "(I)V"⟩
abbrev cX5_lineBegun : ByteArray := prog_7_method_15_code
def yX5_lineBegun : MethodName := ⟨RX5, "lineBegun", "()I"⟩
abbrev cX5_isNamed : ByteArray := prog_7_method_16_code
def yX5_isNamed : MethodName := ⟨RX5, "isNamed", "(Ljava/lang/String;)Z"⟩
def RX6 : String := "PraisedFields"
def TX6 : u_T := fun k => match k with
  | 0 => ("PraisedFields", "land", "LPraisedFields$Land;", true)
  | 1 => ("PraisedFields", "trial", "LPraisedFields$Land;", true)
  | 2 => ("PraisedFields", "images", "[LPraisedFields$Land;", true)
  | 3 => ("PraisedFields", "kept", "[Z", true)
  | 4 => ("PraisedFields", "tape", "LPraisedFields$Tape;", true)
  | 5 => ("PraisedFields", "orders", "LPraisedFields$Orders;", true)
  | 6 => ("PraisedFields", "hail", "LPraisedFields$Hail;", true)
  | 7 => ("PraisedFields", "guesses", "LPraisedFields$Guesses;", true)
  | 8 => ("PraisedFields", "sheets", "LPraisedFields$Sheets;", true)
  | _ => ("PraisedFields", "tornFault", "I", false)
def tyX6 : Nat → FieldType := fun k => match k with
  | 0 => .object "PraisedFields$Land"
  | 1 => .object "PraisedFields$Land"
  | 2 => .array (.object "PraisedFields$Land")
  | 3 => .array .boolean
  | 4 => .object "PraisedFields$Tape"
  | 5 => .object "PraisedFields$Orders"
  | 6 => .object "PraisedFields$Hail"
  | 7 => .object "PraisedFields$Guesses"
  | 8 => .object "PraisedFields$Sheets"
  | _ => .int
theorem nmX6 : ∀ a, a < 10 → ∀ b, b < 10 → a ≠ b → (TX6 a).2.1 ≠ (TX6 b).2.1 := by decide +kernel
theorem tyX6_ok : ∀ k, k < 10 → parseFieldDescriptor (TX6 k).2.2.1 = some (tyX6 k) := by decide +kernel
abbrev cX6_init : ByteArray := prog_1_method_1_code
def yX6_init : MethodName := ⟨RX6, "<init>", "()V"⟩
abbrev cX6_feed : ByteArray := prog_1_method_2_code
def yX6_feed : MethodName := ⟨RX6, "feed", "(I)I"⟩
abbrev cX6_end : ByteArray := prog_1_method_3_code
def yX6_end : MethodName := ⟨RX6, "end", "(I)I"⟩
abbrev cX6_text : ByteArray := prog_1_method_4_code
def yX6_text : MethodName := ⟨RX6, "text", "()I"⟩
abbrev cX6_fault : ByteArray := prog_1_method_5_code
def yX6_fault : MethodName := ⟨RX6, "fault", "()I"⟩
abbrev cX6_rule : ByteArray := prog_1_method_6_code
def yX6_rule : MethodName := ⟨RX6, "rule", "(I)I"⟩
abbrev cX6_field : ByteArray := prog_1_method_7_code
def yX6_field : MethodName := ⟨RX6, "field", "(II)I"⟩
abbrev cX6_band : ByteArray := prog_1_method_8_code
def yX6_band : MethodName := ⟨RX6, "band", "(II)I"⟩
abbrev cX6_alter : ByteArray := prog_1_method_9_code
def yX6_alter : MethodName := ⟨RX6, "alter", "(III)I"⟩
abbrev cX6_replace : ByteArray := prog_1_method_10_code
def yX6_replace : MethodName := ⟨RX6, "replace", "([IIII)I"⟩
abbrev cX6_march : ByteArray := prog_1_method_11_code
def yX6_march : MethodName := ⟨RX6, "march", "(II)I"⟩
abbrev cX6_play : ByteArray := prog_1_method_12_code
def yX6_play : MethodName := ⟨RX6, "play", "(II)I"⟩
abbrev cX6_glut : ByteArray := prog_1_method_13_code
def yX6_glut : MethodName := ⟨RX6, "glut", "(I)I"⟩
abbrev cX6_hire : ByteArray := prog_1_method_14_code
def yX6_hire : MethodName := ⟨RX6, "hire", "(II)I"⟩
abbrev cX6_leave : ByteArray := prog_1_method_15_code
def yX6_leave : MethodName := ⟨RX6, "leave", "(I)I"⟩
abbrev cX6_weeks : ByteArray := prog_1_method_16_code
def yX6_weeks : MethodName := ⟨RX6, "weeks", "(I)I"⟩
abbrev cX6_runs : ByteArray := prog_1_method_17_code
def yX6_runs : MethodName := ⟨RX6, "runs", "(II)I"⟩
abbrev cX6_ahead : ByteArray := prog_1_method_18_code
def yX6_ahead : MethodName := ⟨RX6, "ahead", "(III)I"⟩
abbrev cX6_late : ByteArray := prog_1_method_19_code
def yX6_late : MethodName := ⟨RX6, "late", "(II)I"⟩
abbrev cX6_order : ByteArray := prog_1_method_20_code
def yX6_order : MethodName := ⟨RX6, "order", "(I)I"⟩
abbrev cX6_move : ByteArray := prog_1_method_21_code
def yX6_move : MethodName := ⟨RX6, "move", "(II)I"⟩
abbrev cX6_still : ByteArray := prog_1_method_22_code
def yX6_still : MethodName := ⟨RX6, "still", "(II)I"⟩
abbrev cX6_sheavesWithout : ByteArray := prog_1_method_23_code
def yX6_sheavesWithout : MethodName := ⟨RX6, "sheavesWithout", "(II)I"⟩
abbrev cX6_need : ByteArray := prog_1_method_24_code
def yX6_need : MethodName := ⟨RX6, "need", "(III)I"⟩
abbrev cX6_swap : ByteArray := prog_1_method_25_code
def yX6_swap : MethodName := ⟨RX6, "swap", "(II)I"⟩
abbrev cX6_bear : ByteArray := prog_1_method_26_code
def yX6_bear : MethodName := ⟨RX6, "bear", "(III)I"⟩
abbrev cX6_kind : ByteArray := prog_1_method_27_code
def yX6_kind : MethodName := ⟨RX6, "kind", "(III)I"⟩
abbrev cX6_luck : ByteArray := prog_1_method_28_code
def yX6_luck : MethodName := ⟨RX6, "luck", "(IIIII)J"⟩
abbrev cX6_mean : ByteArray := prog_1_method_29_code
def yX6_mean : MethodName := ⟨RX6, "mean", "(III)J"⟩
abbrev cX6_tenToThe : ByteArray := prog_1_method_30_code
def yX6_tenToThe : MethodName := ⟨RX6, "tenToThe", "(I)J"⟩
abbrev cX6_lowestTerms : ByteArray := prog_1_method_31_code
def yX6_lowestTerms : MethodName := ⟨RX6, "lowestTerms", "(JJI)J"⟩
abbrev cX6_see : ByteArray := prog_1_method_32_code
def yX6_see : MethodName := ⟨RX6, "see", "(III)I"⟩
abbrev cX6_forget : ByteArray := prog_1_method_33_code
def yX6_forget : MethodName := ⟨RX6, "forget", "(I)I"⟩
abbrev cX6_kinds : ByteArray := prog_1_method_34_code
def yX6_kinds : MethodName := ⟨RX6, "kinds", "(I)I"⟩
abbrev cX6_blights : ByteArray := prog_1_method_35_code
def yX6_blights : MethodName := ⟨RX6, "blights", "(I)I"⟩
abbrev cX6_blightsAsSeen : ByteArray := prog_1_method_36_code
def yX6_blightsAsSeen : MethodName := ⟨RX6, "blightsAsSeen", "(I)I"⟩
abbrev cX6_ask : ByteArray := prog_1_method_37_code
def yX6_ask : MethodName := ⟨RX6, "ask", "(II)I"⟩
abbrev cX6_drift : ByteArray := prog_1_method_38_code
def yX6_drift : MethodName := ⟨RX6, "drift", "(III)I"⟩
abbrev cX6_keep : ByteArray := prog_1_method_39_code
def yX6_keep : MethodName := ⟨RX6, "keep", "(I)I"⟩
abbrev cX6_back : ByteArray := prog_1_method_40_code
def yX6_back : MethodName := ⟨RX6, "back", "(I)I"⟩
abbrev cX6_sheet : ByteArray := prog_1_method_41_code
def yX6_sheet : MethodName := ⟨RX6, "sheet", "(III)I"⟩
abbrev cX6_lay : ByteArray := prog_1_method_42_code
def yX6_lay : MethodName := ⟨RX6, "lay", "(III)I"⟩
abbrev cX6_read : ByteArray := prog_1_method_43_code
def yX6_read : MethodName := ⟨RX6, "read", "(IIII)I"⟩
abbrev cX6_torn : ByteArray := prog_1_method_44_code
def yX6_torn : MethodName := ⟨RX6, "torn", "()I"⟩
abbrev cX6_count : ByteArray := prog_1_method_45_code
def yX6_count : MethodName := ⟨RX6, "count", "(I)I"⟩
abbrev cX6_within : ByteArray := prog_1_method_46_code
def yX6_within : MethodName := ⟨RX6, "within", "(III)Z"⟩
abbrev cX6_isField : ByteArray := prog_1_method_47_code
def yX6_isField : MethodName := ⟨RX6, "isField", "(I)Z"⟩
abbrev cX6_isBand : ByteArray := prog_1_method_48_code
def yX6_isBand : MethodName := ⟨RX6, "isBand", "(I)Z"⟩
abbrev cX6_growth : ByteArray := prog_1_method_49_code
def yX6_growth : MethodName := ⟨RX6, "growth", "(II)I"⟩
abbrev cX6_heed : ByteArray := prog_1_method_50_code
def yX6_heed : MethodName := ⟨RX6, "heed", "(I)I"⟩
abbrev cX6_earsNext : ByteArray := prog_1_method_51_code
def yX6_earsNext : MethodName := ⟨RX6, "earsNext", "(IIII)I"⟩
abbrev cX6_blightNext : ByteArray := prog_1_method_52_code
def yX6_blightNext : MethodName := ⟨RX6, "blightNext", "(III)I"⟩
abbrev cX6_earsBehind : ByteArray := prog_1_method_53_code
def yX6_earsBehind : MethodName := ⟨RX6, "earsBehind", "(IIIII)I"⟩
abbrev cX6_blightBehind : ByteArray := prog_1_method_54_code
def yX6_blightBehind : MethodName := ⟨RX6, "blightBehind", "(IIII)I"⟩
def RX7 : String := "PraisedFieldsModel"
def TX7 : u_T := fun k => match k with
  | 0 => ("PraisedFieldsModel", "st", "[I", true)
  | 1 => ("PraisedFieldsModel", "now", "[I", true)
  | 2 => ("PraisedFieldsModel", "isKept", "[Z", true)
  | 3 => ("PraisedFieldsModel", "draft", "[I", true)
  | 4 => ("PraisedFieldsModel", "hasGlut", "Z", false)
  | 5 => ("PraisedFieldsModel", "highest", "I", false)
  | 6 => ("PraisedFieldsModel", "tape", "[I", true)
  | 7 => ("PraisedFieldsModel", "taped", "I", false)
  | 8 => ("PraisedFieldsModel", "pos", "I", false)
  | 9 => ("PraisedFieldsModel", "begun", "I", false)
  | 10 => ("PraisedFieldsModel", "sort", "I", false)
  | 11 => ("PraisedFieldsModel", "value", "I", false)
  | 12 => ("PraisedFieldsModel", "fault", "I", false)
  | 13 => ("PraisedFieldsModel", "wrongAt", "I", false)
  | 14 => ("PraisedFieldsModel", "quiet", "I", false)
  | 15 => ("PraisedFieldsModel", "fines", "I", false)
  | 16 => ("PraisedFieldsModel", "bestCode", "I", false)
  | 17 => ("PraisedFieldsModel", "bestMuch", "I", false)
  | 18 => ("PraisedFieldsModel", "bestRow", "[I", true)
  | 19 => ("PraisedFieldsModel", "fullSum", "J", false)
  | 20 => ("PraisedFieldsModel", "earSum", "J", false)
  | 21 => ("PraisedFieldsModel", "allWays", "J", false)
  | 22 => ("PraisedFieldsModel", "had", "[I", true)
  | 23 => ("PraisedFieldsModel", "byBlight", "[I", true)
  | 24 => ("PraisedFieldsModel", "lanes", "[I", true)
  | 25 => ("PraisedFieldsModel", "sizes", "[I", true)
  | 26 => ("PraisedFieldsModel", "cells", "[I", true)
  | 27 => ("PraisedFieldsModel", "torn", "I", false)
  | _ => ("PraisedFieldsModel", "before", "[I", true)
def tyX7 : Nat → FieldType := fun k => match k with
  | 0 => .array .int
  | 1 => .array .int
  | 2 => .array .boolean
  | 3 => .array .int
  | 4 => .boolean
  | 5 => .int
  | 6 => .array .int
  | 7 => .int
  | 8 => .int
  | 9 => .int
  | 10 => .int
  | 11 => .int
  | 12 => .int
  | 13 => .int
  | 14 => .int
  | 15 => .int
  | 16 => .int
  | 17 => .int
  | 18 => .array .int
  | 19 => .long
  | 20 => .long
  | 21 => .long
  | 22 => .array .int
  | 23 => .array .int
  | 24 => .array .int
  | 25 => .array .int
  | 26 => .array .int
  | 27 => .int
  | _ => .array .int
theorem nmX7 : ∀ a, a < 29 → ∀ b, b < 29 → a ≠ b → (TX7 a).2.1 ≠ (TX7 b).2.1 := by decide +kernel
theorem tyX7_ok : ∀ k, k < 29 → parseFieldDescriptor (TX7 k).2.2.1 = some (tyX7 k) := by decide +kernel
abbrev cX7_init : ByteArray := prog_9_method_1_code
def yX7_init : MethodName := ⟨RX7, "<init>", "()V"⟩
abbrev cX7_in : ByteArray := prog_9_method_3_code
def yX7_in : MethodName := ⟨RX7, "in", "(JJJ)Z"⟩
abbrev cX7_flag : ByteArray := prog_9_method_4_code
def yX7_flag : MethodName := ⟨RX7, "flag", "(Z)I"⟩
abbrev cX7_within : ByteArray := prog_9_method_5_code
def yX7_within : MethodName := ⟨RX7, "within", "(II)I"⟩
abbrev cX7_firstDraft : ByteArray := prog_9_method_6_code
def yX7_firstDraft : MethodName := ⟨RX7, "firstDraft", "()V"⟩
abbrev cX7_keepDraft : ByteArray := prog_9_method_7_code
def yX7_keepDraft : MethodName := ⟨RX7, "keepDraft", "()V"⟩
abbrev cX7_feed : ByteArray := prog_9_method_8_code
def yX7_feed : MethodName := ⟨RX7, "feed", "(I)I"⟩
abbrev cX7_end : ByteArray := prog_9_method_9_code
def yX7_end : MethodName := ⟨RX7, "end", "(I)I"⟩
abbrev cX7_requires : ByteArray := prog_9_method_10_code
def yX7_requires : MethodName := ⟨RX7, "requires", "(ZI)V"⟩
abbrev cX7_byteAt : ByteArray := prog_9_method_11_code
def yX7_byteAt : MethodName := ⟨RX7, "byteAt", "(I)I"⟩
abbrev cX7_is : ByteArray := prog_9_method_12_code
def yX7_is : MethodName := ⟨RX7, "is", "(IIII)Z"⟩
abbrev cX7_endsIn : ByteArray := prog_9_method_13_code
def yX7_endsIn : MethodName := ⟨RX7, "endsIn", "(II)Z"⟩
abbrev cX7_lineNow : ByteArray := prog_9_method_14_code
def yX7_lineNow : MethodName := ⟨RX7, "lineNow", "()I"⟩
abbrev cX7_reads : ByteArray := prog_9_method_15_code
def yX7_reads : MethodName := ⟨RX7, "reads", "()V"⟩
abbrev cX7_readNumber : ByteArray := prog_9_method_16_code
def yX7_readNumber : MethodName := ⟨RX7, "readNumber", "(II)I"⟩
abbrev cX7_readBand : ByteArray := prog_9_method_17_code
def yX7_readBand : MethodName := ⟨RX7, "readBand", "()V"⟩
abbrev cX7_readLineOf : ByteArray := prog_9_method_18_code
def yX7_readLineOf : MethodName := ⟨RX7, "readLineOf", "(I)V"⟩
abbrev cX7_readLine : ByteArray := prog_9_method_19_code
def yX7_readLine : MethodName := ⟨RX7, "readLine", "()V"⟩
abbrev cX7_text : ByteArray := prog_9_method_20_code
def yX7_text : MethodName := ⟨RX7, "text", "()I"⟩
abbrev cX7_fault : ByteArray := prog_9_method_21_code
def yX7_fault : MethodName := ⟨RX7, "fault", "()I"⟩
abbrev cX7_isField : ByteArray := prog_9_method_22_code
def yX7_isField : MethodName := ⟨RX7, "isField", "(I)Z"⟩
abbrev cX7_isBand : ByteArray := prog_9_method_23_code
def yX7_isBand : MethodName := ⟨RX7, "isBand", "(I)Z"⟩
abbrev cX7_isPart : ByteArray := prog_9_method_24_code
def yX7_isPart : MethodName := ⟨RX7, "isPart", "(I)Z"⟩
abbrev cX7_areEars : ByteArray := prog_9_method_25_code
def yX7_areEars : MethodName := ⟨RX7, "areEars", "(I)Z"⟩
abbrev cX7_starts : ByteArray := prog_9_method_26_code
def yX7_starts : MethodName := ⟨RX7, "starts", "()V"⟩
abbrev cX7_settles : ByteArray := prog_9_method_27_code
def yX7_settles : MethodName := ⟨RX7, "settles", "()V"⟩
abbrev cX7_of : ByteArray := prog_9_method_28_code
def yX7_of : MethodName := ⟨RX7, "of", "(II)I"⟩
abbrev cX7_becomesOf : ByteArray := prog_9_method_29_code
def yX7_becomesOf : MethodName := ⟨RX7, "becomesOf", "(III)V"⟩
abbrev cX7_ofBand : ByteArray := prog_9_method_30_code
def yX7_ofBand : MethodName := ⟨RX7, "ofBand", "(II)I"⟩
abbrev cX7_bandBecomes : ByteArray := prog_9_method_31_code
def yX7_bandBecomes : MethodName := ⟨RX7, "bandBecomes", "(III)V"⟩
abbrev cX7_heardAt : ByteArray := prog_9_method_32_code
def yX7_heardAt : MethodName := ⟨RX7, "heardAt", "(I)I"⟩
abbrev cX7_growsBy : ByteArray := prog_9_method_33_code
def yX7_growsBy : MethodName := ⟨RX7, "growsBy", "(I)I"⟩
abbrev cX7_heeds : ByteArray := prog_9_method_34_code
def yX7_heeds : MethodName := ⟨RX7, "heeds", "(I)I"⟩
abbrev cX7_fieldGoes : ByteArray := prog_9_method_35_code
def yX7_fieldGoes : MethodName := ⟨RX7, "fieldGoes", "(I)V"⟩
abbrev cX7_weekGoes : ByteArray := prog_9_method_36_code
def yX7_weekGoes : MethodName := ⟨RX7, "weekGoes", "(Z)V"⟩
abbrev cX7_weeksGo : ByteArray := prog_9_method_37_code
def yX7_weeksGo : MethodName := ⟨RX7, "weeksGo", "(I)V"⟩
abbrev cX7_sumOf : ByteArray := prog_9_method_38_code
def yX7_sumOf : MethodName := ⟨RX7, "sumOf", "(I)I"⟩
abbrev cX7_earsBehind : ByteArray := prog_9_method_39_code
def yX7_earsBehind : MethodName := ⟨RX7, "earsBehind", "(I)I"⟩
abbrev cX7_emptyNow : ByteArray := prog_9_method_40_code
def yX7_emptyNow : MethodName := ⟨RX7, "emptyNow", "()I"⟩
abbrev cX7_rule : ByteArray := prog_9_method_41_code
def yX7_rule : MethodName := ⟨RX7, "rule", "(I)I"⟩
abbrev cX7_field : ByteArray := prog_9_method_42_code
def yX7_field : MethodName := ⟨RX7, "field", "(II)I"⟩
abbrev cX7_band : ByteArray := prog_9_method_43_code
def yX7_band : MethodName := ⟨RX7, "band", "(II)I"⟩
abbrev cX7_becomes : ByteArray := prog_9_method_44_code
def yX7_becomes : MethodName := ⟨RX7, "becomes", "(II)I"⟩
abbrev cX7_alter : ByteArray := prog_9_method_45_code
def yX7_alter : MethodName := ⟨RX7, "alter", "(III)I"⟩
abbrev cX7_march : ByteArray := prog_9_method_46_code
def yX7_march : MethodName := ⟨RX7, "march", "(II)I"⟩
abbrev cX7_play : ByteArray := prog_9_method_47_code
def yX7_play : MethodName := ⟨RX7, "play", "(II)I"⟩
abbrev cX7_glut : ByteArray := prog_9_method_48_code
def yX7_glut : MethodName := ⟨RX7, "glut", "(I)I"⟩
abbrev cX7_hire : ByteArray := prog_9_method_49_code
def yX7_hire : MethodName := ⟨RX7, "hire", "(II)I"⟩
abbrev cX7_leave : ByteArray := prog_9_method_50_code
def yX7_leave : MethodName := ⟨RX7, "leave", "(I)I"⟩
abbrev cX7_weeks : ByteArray := prog_9_method_51_code
def yX7_weeks : MethodName := ⟨RX7, "weeks", "(I)I"⟩
abbrev cX7_isFar : ByteArray := prog_9_method_52_code
def yX7_isFar : MethodName := ⟨RX7, "isFar", "(I)Z"⟩
abbrev cX7_runs : ByteArray := prog_9_method_53_code
def yX7_runs : MethodName := ⟨RX7, "runs", "(II)I"⟩
abbrev cX7_ahead : ByteArray := prog_9_method_54_code
def yX7_ahead : MethodName := ⟨RX7, "ahead", "(III)I"⟩
abbrev cX7_late : ByteArray := prog_9_method_55_code
def yX7_late : MethodName := ⟨RX7, "late", "(II)I"⟩
abbrev cX7_startsJudging : ByteArray := prog_9_method_56_code
def yX7_startsJudging : MethodName := ⟨RX7, "startsJudging", "(I)V"⟩
abbrev cX7_judges : ByteArray := prog_9_method_57_code
def yX7_judges : MethodName := ⟨RX7, "judges", "(II)V"⟩
abbrev cX7_judged : ByteArray := prog_9_method_58_code
def yX7_judged : MethodName := ⟨RX7, "judged", "(I)I"⟩
abbrev cX7_findOrder : ByteArray := prog_9_method_59_code
def yX7_findOrder : MethodName := ⟨RX7, "findOrder", "()V"⟩
abbrev cX7_order : ByteArray := prog_9_method_60_code
def yX7_order : MethodName := ⟨RX7, "order", "(I)I"⟩
abbrev cX7_move : ByteArray := prog_9_method_61_code
def yX7_move : MethodName := ⟨RX7, "move", "(II)I"⟩
abbrev cX7_still : ByteArray := prog_9_method_62_code
def yX7_still : MethodName := ⟨RX7, "still", "(II)I"⟩
abbrev cX7_need : ByteArray := prog_9_method_63_code
def yX7_need : MethodName := ⟨RX7, "need", "(III)I"⟩
abbrev cX7_swap : ByteArray := prog_9_method_64_code
def yX7_swap : MethodName := ⟨RX7, "swap", "(II)I"⟩
abbrev cX7_bear : ByteArray := prog_9_method_65_code
def yX7_bear : MethodName := ⟨RX7, "bear", "(III)I"⟩
abbrev cX7_kind : ByteArray := prog_9_method_66_code
def yX7_kind : MethodName := ⟨RX7, "kind", "(III)I"⟩
abbrev cX7_common : ByteArray := prog_9_method_67_code
def yX7_common : MethodName := ⟨RX7, "common", "(JJ)J"⟩
abbrev cX7_lowest : ByteArray := prog_9_method_68_code
def yX7_lowest : MethodName := ⟨RX7, "lowest", "(JJI)J"⟩
abbrev cX7_findOdds : ByteArray := prog_9_method_69_code
def yX7_findOdds : MethodName := ⟨RX7, "findOdds", "(IIII)V"⟩
abbrev cX7_luck : ByteArray := prog_9_method_70_code
def yX7_luck : MethodName := ⟨RX7, "luck", "(IIIII)J"⟩
abbrev cX7_mean : ByteArray := prog_9_method_71_code
def yX7_mean : MethodName := ⟨RX7, "mean", "(III)J"⟩
abbrev cX7_see : ByteArray := prog_9_method_72_code
def yX7_see : MethodName := ⟨RX7, "see", "(III)I"⟩
abbrev cX7_forget : ByteArray := prog_9_method_73_code
def yX7_forget : MethodName := ⟨RX7, "forget", "(I)I"⟩
abbrev cX7_isSoWith : ByteArray := prog_9_method_74_code
def yX7_isSoWith : MethodName := ⟨RX7, "isSoWith", "(II)Z"⟩
abbrev cX7_which : ByteArray := prog_9_method_75_code
def yX7_which : MethodName := ⟨RX7, "which", "(II)I"⟩
abbrev cX7_kinds : ByteArray := prog_9_method_76_code
def yX7_kinds : MethodName := ⟨RX7, "kinds", "(I)I"⟩
abbrev cX7_blights : ByteArray := prog_9_method_77_code
def yX7_blights : MethodName := ⟨RX7, "blights", "(I)I"⟩
abbrev cX7_ask : ByteArray := prog_9_method_78_code
def yX7_ask : MethodName := ⟨RX7, "ask", "(II)I"⟩
abbrev cX7_drift : ByteArray := prog_9_method_79_code
def yX7_drift : MethodName := ⟨RX7, "drift", "(III)I"⟩
abbrev cX7_copies : ByteArray := prog_9_method_80_code
def yX7_copies : MethodName := ⟨RX7, "copies", "(II)V"⟩
abbrev cX7_keep : ByteArray := prog_9_method_81_code
def yX7_keep : MethodName := ⟨RX7, "keep", "(I)I"⟩
abbrev cX7_back : ByteArray := prog_9_method_82_code
def yX7_back : MethodName := ⟨RX7, "back", "(I)I"⟩
abbrev cX7_isSheet : ByteArray := prog_9_method_83_code
def yX7_isSheet : MethodName := ⟨RX7, "isSheet", "(II)Z"⟩
abbrev cX7_sheet : ByteArray := prog_9_method_84_code
def yX7_sheet : MethodName := ⟨RX7, "sheet", "(III)I"⟩
abbrev cX7_lay : ByteArray := prog_9_method_85_code
def yX7_lay : MethodName := ⟨RX7, "lay", "(III)I"⟩
abbrev cX7_read : ByteArray := prog_9_method_86_code
def yX7_read : MethodName := ⟨RX7, "read", "(IIII)I"⟩
abbrev cX7_torn : ByteArray := prog_9_method_87_code
def yX7_torn : MethodName := ⟨RX7, "torn", "()I"⟩
abbrev cX7_count : ByteArray := prog_9_method_88_code
def yX7_count : MethodName := ⟨RX7, "count", "(I)I"⟩
def RJ9 : String := "java/lang/Math"
def TJ9 : u_T := fun k => match k with
  | _ => ("", "", "", false)
def tyJ9 : Nat → FieldType := fun k => match k with
  | _ => .int
theorem nmJ9 : ∀ a, a < 0 → ∀ b, b < 0 → a ≠ b → (TJ9 a).2.1 ≠ (TJ9 b).2.1 := by decide +kernel
theorem tyJ9_ok : ∀ k, k < 0 → parseFieldDescriptor (TJ9 k).2.2.1 = some (tyJ9 k) := by decide +kernel
abbrev cJ9_max_7cf53 : ByteArray := prog_10_method_65_code
def yJ9_max_7cf53 : MethodName := ⟨RJ9, "max", "(II)I"⟩
abbrev cJ9_min_7cf53 : ByteArray := prog_10_method_69_code
def yJ9_min_7cf53 : MethodName := ⟨RJ9, "min", "(II)I"⟩
def RJ0 : String := "java/lang/String"
def TJ0 : u_T := fun k => match k with
  | _ => ("", "", "", false)
def tyJ0 : Nat → FieldType := fun k => match k with
  | _ => .int
theorem nmJ0 : ∀ a, a < 0 → ∀ b, b < 0 → a ≠ b → (TJ0 a).2.1 ≠ (TJ0 b).2.1 := by decide +kernel
theorem tyJ0_ok : ∀ k, k < 0 → parseFieldDescriptor (TJ0 k).2.2.1 = some (tyJ0 k) := by decide +kernel
abbrev cJ0_length_8abf5 : ByteArray := prog_11_method_54_code
def yJ0_length_8abf5 : MethodName := ⟨RJ0, "length", "()I"⟩
abbrev cJ0_charAt_5068e : ByteArray := prog_11_method_56_code
def yJ0_charAt_5068e : MethodName := ⟨RJ0, "charAt", "(I)C"⟩
abbrev cJ0_coder_7d493 : ByteArray := prog_11_method_152_code
def yJ0_coder_7d493 : MethodName := ⟨RJ0, "coder", "()B"⟩
abbrev cJ0_isLatin1_aae02 : ByteArray := prog_11_method_154_code
def yJ0_isLatin1_aae02 : MethodName := ⟨RJ0, "isLatin1", "()Z"⟩
abbrev cJ0_checkIndex_df160 : ByteArray := prog_11_method_155_code
def yJ0_checkIndex_df160 : MethodName := ⟨RJ0, "checkIndex", "(II)V"⟩
def RJ1 : String := "java/lang/StringLatin1"
def TJ1 : u_T := fun k => match k with
  | _ => ("", "", "", false)
def tyJ1 : Nat → FieldType := fun k => match k with
  | _ => .int
theorem nmJ1 : ∀ a, a < 0 → ∀ b, b < 0 → a ≠ b → (TJ1 a).2.1 ≠ (TJ1 b).2.1 := by decide +kernel
theorem tyJ1_ok : ∀ k, k < 0 → parseFieldDescriptor (TJ1 k).2.2.1 = some (tyJ1 k) := by decide +kernel
abbrev cJ1_charAt_3b067 : ByteArray := prog_12_method_2_code
def yJ1_charAt_3b067 : MethodName := ⟨RJ1, "charAt", "([BI)C"⟩
def RJ2 : String := "java/lang/StringUTF16"
def TJ2 : u_T := fun k => match k with
  | _ => ("", "", "", false)
def tyJ2 : Nat → FieldType := fun k => match k with
  | _ => .int
theorem nmJ2 : ∀ a, a < 0 → ∀ b, b < 0 → a ≠ b → (TJ2 a).2.1 ≠ (TJ2 b).2.1 := by decide +kernel
theorem tyJ2_ok : ∀ k, k < 0 → parseFieldDescriptor (TJ2 k).2.2.1 = some (tyJ2 k) := by decide +kernel
abbrev cJ2_getChar_3b067 : ByteArray := prog_13_method_5_code
def yJ2_getChar_3b067 : MethodName := ⟨RJ2, "getChar", "([BI)C"⟩
abbrev cJ2_length_9d52b : ByteArray := prog_13_method_6_code
def yJ2_length_9d52b : MethodName := ⟨RJ2, "length", "([B)I"⟩
abbrev cJ2_charAt_3b067 : ByteArray := prog_13_method_83_code
def yJ2_charAt_3b067 : MethodName := ⟨RJ2, "charAt", "([BI)C"⟩
abbrev cJ2_checkIndex_2214a : ByteArray := prog_13_method_91_code
def yJ2_checkIndex_2214a : MethodName := ⟨RJ2, "checkIndex", "(I[B)V"⟩
def RJ10 : String := "java/lang/System"
def TJ10 : u_T := fun k => match k with
  | _ => ("", "", "", false)
def tyJ10 : Nat → FieldType := fun k => match k with
  | _ => .int
theorem nmJ10 : ∀ a, a < 0 → ∀ b, b < 0 → a ≠ b → (TJ10 a).2.1 ≠ (TJ10 b).2.1 := by decide +kernel
theorem tyJ10_ok : ∀ k, k < 0 → parseFieldDescriptor (TJ10 k).2.2.1 = some (tyJ10 k) := by decide +kernel
def RJ3 : String := "jdk/internal/util/Preconditions"
def TJ3 : u_T := fun k => match k with
  | _ => ("", "", "", false)
def tyJ3 : Nat → FieldType := fun k => match k with
  | _ => .int
theorem nmJ3 : ∀ a, a < 0 → ∀ b, b < 0 → a ≠ b → (TJ3 a).2.1 ≠ (TJ3 b).2.1 := by decide +kernel
theorem tyJ3_ok : ∀ k, k < 0 → parseFieldDescriptor (TJ3 k).2.2.1 = some (tyJ3 k) := by decide +kernel
abbrev cJ3_checkIndex_8e157 : ByteArray := prog_15_method_11_code
def yJ3_checkIndex_8e157 : MethodName := ⟨RJ3, "checkIndex", "(IILjava/util/function/BiFunction;)I"⟩
def RL : String := "PraisedFieldsLaw"
abbrev cL_law : ByteArray := code
def yL_law : MethodName := ⟨RL, "law", "([I)Z"⟩
abbrev vwCl : List vw_C := [(RX0, TX0, 3), (RX1, TX1, 4), (RX2, TX2, 14), (RX3, TX3, 6), (RX4, TX4, 3), (RX5, TX5, 9), (RX6, TX6, 10), (RX7, TX7, 29)]
/-- a method: its name, its bytes, its locals, its answer's type -/
abbrev ZM : Type := MethodName × ByteArray × Nat × Option FieldType
def zNest : Cond → Bool
  | .methodLinkNest .. => true
  | _ => false
def zok (w : Cond) : Bool := (w.onTables && w.keeps) || zNest w
def zW : List Cond := lw_tbl.filter zok
theorem zmem {w : Cond} (i : Nat) (h : lw_tbl[i]? = some w) (h2 : zok w = true) : w ∈ zW := List.mem_filter.mpr ⟨List.mem_of_getElem? h, h2⟩

abbrev mX0_init : ZM := (yX0_init, cX0_init, 1, none)
abbrev mX0_begin : ZM := (yX0_begin, cX0_begin, 4, none)
abbrev mX0_passWeek : ZM := (yX0_passWeek, cX0_passWeek, 4, none)
abbrev mX0_largestGroup : ZM := (yX0_largestGroup, cX0_largestGroup, 5, some .int)
abbrev mX1_init : ZM := (yX1_init, cX1_init, 1, none)
abbrev mX1_fallOn : ZM := (yX1_fallOn, cX1_fallOn, 7, none)
abbrev mX1_part : ZM := (yX1_part, cX1_part, 3, none)
abbrev mX1_passWeek : ZM := (yX1_passWeek, cX1_passWeek, 4, none)
abbrev mX1_weightOf : ZM := (yX1_weightOf, cX1_weightOf, 5, some .long)
abbrev mX1_weighedEars : ZM := (yX1_weighedEars, cX1_weighedEars, 4, some .long)
abbrev mX2_init : ZM := (yX2_init, cX2_init, 1, none)
abbrev mX2_clear : ZM := (yX2_clear, cX2_clear, 1, none)
abbrev mX2_copyFrom : ZM := (yX2_copyFrom, cX2_copyFrom, 2, none)
abbrev mX2_addField : ZM := (yX2_addField, cX2_addField, 4, some .boolean)
abbrev mX2_addBand : ZM := (yX2_addBand, cX2_addBand, 3, some .boolean)
abbrev mX2_addSeen : ZM := (yX2_addSeen, cX2_addSeen, 4, some .boolean)
abbrev mX2_heardAt : ZM := (yX2_heardAt, cX2_heardAt, 4, some .int)
abbrev mX2_hearingFields : ZM := (yX2_hearingFields, cX2_hearingFields, 3, some .int)
abbrev mX2_earlessFields : ZM := (yX2_earlessFields, cX2_earlessFields, 3, some .int)
abbrev mX2_allEars : ZM := (yX2_allEars, cX2_allEars, 1, some .int)
abbrev mX2_allBlight : ZM := (yX2_allBlight, cX2_allBlight, 1, some .int)
abbrev mX2_allLoud : ZM := (yX2_allLoud, cX2_allLoud, 1, some .int)
abbrev mX2_sumOf : ZM := (yX2_sumOf, cX2_sumOf, 4, some .int)
abbrev mX2_passWeek : ZM := (yX2_passWeek, cX2_passWeek, 4, some .int)
abbrev mX2_passWeeks : ZM := (yX2_passWeeks, cX2_passWeeks, 4, some .int)
abbrev mX2_earsIf : ZM := (yX2_earsIf, cX2_earsIf, 4, some .int)
abbrev mX2_gainBy : ZM := (yX2_gainBy, cX2_gainBy, 5, some .int)
abbrev mX2_allEarsBehind : ZM := (yX2_allEarsBehind, cX2_allEarsBehind, 4, some .int)
abbrev mX2_isAsSeen : ZM := (yX2_isAsSeen, cX2_isAsSeen, 9, some .boolean)
abbrev mX3_init : ZM := (yX3_init, cX3_init, 1, none)
abbrev mX3_findBest : ZM := (yX3_findBest, cX3_findBest, 4, none)
abbrev mX3_weigh : ZM := (yX3_weigh, cX3_weigh, 5, none)
abbrev mX3_beginRows : ZM := (yX3_beginRows, cX3_beginRows, 3, none)
abbrev mX3_nextRow : ZM := (yX3_nextRow, cX3_nextRow, 3, none)
abbrev mX3_place : ZM := (yX3_place, cX3_place, 3, none)
abbrev mX3_toggle : ZM := (yX3_toggle, cX3_toggle, 3, none)
abbrev mX4_init : ZM := (yX4_init, cX4_init, 1, none)
abbrev mX4_renew : ZM := (yX4_renew, cX4_renew, 5, none)
abbrev mX4_faultAt : ZM := (yX4_faultAt, cX4_faultAt, 4, some .int)
abbrev mX4_pairFault : ZM := (yX4_pairFault, cX4_pairFault, 5, some .int)
abbrev mX4_put : ZM := (yX4_put, cX4_put, 4, none)
abbrev mX4_get : ZM := (yX4_get, cX4_get, 3, some .int)
abbrev mX4_lowestBits : ZM := (yX4_lowestBits, cX4_lowestBits, 2, some .int)
abbrev mX5_init : ZM := (yX5_init, cX5_init, 1, none)
abbrev mX5_append : ZM := (yX5_append, cX5_append, 2, some .boolean)
abbrev mX5_tellAll : ZM := (yX5_tellAll, cX5_tellAll, 4, some .int)
abbrev mX5_refuse : ZM := (yX5_refuse, cX5_refuse, 3, some .boolean)
abbrev mX5_takeLine : ZM := (yX5_takeLine, cX5_takeLine, 3, some .boolean)
abbrev mX5_takeField : ZM := (yX5_takeField, cX5_takeField, 4, some .boolean)
abbrev mX5_takeBand : ZM := (yX5_takeBand, cX5_takeBand, 3, some .boolean)
abbrev mX5_takeGlut : ZM := (yX5_takeGlut, cX5_takeGlut, 2, some .boolean)
abbrev mX5_takeNumber : ZM := (yX5_takeNumber, cX5_takeNumber, 3, some .boolean)
abbrev mX5_takeSemicolon : ZM := (yX5_takeSemicolon, cX5_takeSemicolon, 1, some .boolean)
abbrev mX5_isToken : ZM := (yX5_isToken, cX5_isToken, 2, some .boolean)
abbrev mX5_nextToken : ZM := (yX5_nextToken, cX5_nextToken, 3, none)
abbrev mX5_stretch : ZM := (yX5_stretch, cX5_stretch, 4, some .int)
abbrev mX5_readNumber : ZM := (yX5_readNumber, cX5_readNumber, 3, none)
abbrev mX5_lineBegun : ZM := (yX5_lineBegun, cX5_lineBegun, 1, some .int)
abbrev mX5_isNamed : ZM := (yX5_isNamed, cX5_isNamed, 3, some .boolean)
abbrev mX6_init : ZM := (yX6_init, cX6_init, 1, none)
abbrev mX6_feed : ZM := (yX6_feed, cX6_feed, 2, some .int)
abbrev mX6_end : ZM := (yX6_end, cX6_end, 3, some .int)
abbrev mX6_text : ZM := (yX6_text, cX6_text, 3, some .int)
abbrev mX6_fault : ZM := (yX6_fault, cX6_fault, 1, some .int)
abbrev mX6_rule : ZM := (yX6_rule, cX6_rule, 2, some .int)
abbrev mX6_field : ZM := (yX6_field, cX6_field, 4, some .int)
abbrev mX6_band : ZM := (yX6_band, cX6_band, 3, some .int)
abbrev mX6_alter : ZM := (yX6_alter, cX6_alter, 4, some .int)
abbrev mX6_replace : ZM := (yX6_replace, cX6_replace, 5, some .int)
abbrev mX6_march : ZM := (yX6_march, cX6_march, 4, some .int)
abbrev mX6_play : ZM := (yX6_play, cX6_play, 4, some .int)
abbrev mX6_glut : ZM := (yX6_glut, cX6_glut, 3, some .int)
abbrev mX6_hire : ZM := (yX6_hire, cX6_hire, 3, some .int)
abbrev mX6_leave : ZM := (yX6_leave, cX6_leave, 3, some .int)
abbrev mX6_weeks : ZM := (yX6_weeks, cX6_weeks, 2, some .int)
abbrev mX6_runs : ZM := (yX6_runs, cX6_runs, 4, some .int)
abbrev mX6_ahead : ZM := (yX6_ahead, cX6_ahead, 4, some .int)
abbrev mX6_late : ZM := (yX6_late, cX6_late, 8, some .int)
abbrev mX6_order : ZM := (yX6_order, cX6_order, 3, some .int)
abbrev mX6_move : ZM := (yX6_move, cX6_move, 10, some .int)
abbrev mX6_still : ZM := (yX6_still, cX6_still, 7, some .int)
abbrev mX6_sheavesWithout : ZM := (yX6_sheavesWithout, cX6_sheavesWithout, 3, some .int)
abbrev mX6_need : ZM := (yX6_need, cX6_need, 7, some .int)
abbrev mX6_swap : ZM := (yX6_swap, cX6_swap, 9, some .int)
abbrev mX6_bear : ZM := (yX6_bear, cX6_bear, 6, some .int)
abbrev mX6_kind : ZM := (yX6_kind, cX6_kind, 9, some .int)
abbrev mX6_luck : ZM := (yX6_luck, cX6_luck, 6, some .long)
abbrev mX6_mean : ZM := (yX6_mean, cX6_mean, 7, some .long)
abbrev mX6_tenToThe : ZM := (yX6_tenToThe, cX6_tenToThe, 4, some .long)
abbrev mX6_lowestTerms : ZM := (yX6_lowestTerms, cX6_lowestTerms, 12, some .long)
abbrev mX6_see : ZM := (yX6_see, cX6_see, 4, some .int)
abbrev mX6_forget : ZM := (yX6_forget, cX6_forget, 3, some .int)
abbrev mX6_kinds : ZM := (yX6_kinds, cX6_kinds, 4, some .int)
abbrev mX6_blights : ZM := (yX6_blights, cX6_blights, 2, some .int)
abbrev mX6_blightsAsSeen : ZM := (yX6_blightsAsSeen, cX6_blightsAsSeen, 4, some .int)
abbrev mX6_ask : ZM := (yX6_ask, cX6_ask, 8, some .int)
abbrev mX6_drift : ZM := (yX6_drift, cX6_drift, 7, some .int)
abbrev mX6_keep : ZM := (yX6_keep, cX6_keep, 3, some .int)
abbrev mX6_back : ZM := (yX6_back, cX6_back, 2, some .int)
abbrev mX6_sheet : ZM := (yX6_sheet, cX6_sheet, 4, some .int)
abbrev mX6_lay : ZM := (yX6_lay, cX6_lay, 5, some .int)
abbrev mX6_read : ZM := (yX6_read, cX6_read, 8, some .int)
abbrev mX6_torn : ZM := (yX6_torn, cX6_torn, 1, some .int)
abbrev mX6_count : ZM := (yX6_count, cX6_count, 2, some .int)
abbrev mX6_within : ZM := (yX6_within, cX6_within, 3, some .boolean)
abbrev mX6_isField : ZM := (yX6_isField, cX6_isField, 2, some .boolean)
abbrev mX6_isBand : ZM := (yX6_isBand, cX6_isBand, 2, some .boolean)
abbrev mX6_growth : ZM := (yX6_growth, cX6_growth, 2, some .int)
abbrev mX6_heed : ZM := (yX6_heed, cX6_heed, 1, some .int)
abbrev mX6_earsNext : ZM := (yX6_earsNext, cX6_earsNext, 4, some .int)
abbrev mX6_blightNext : ZM := (yX6_blightNext, cX6_blightNext, 3, some .int)
abbrev mX6_earsBehind : ZM := (yX6_earsBehind, cX6_earsBehind, 8, some .int)
abbrev mX6_blightBehind : ZM := (yX6_blightBehind, cX6_blightBehind, 6, some .int)
abbrev mX7_init : ZM := (yX7_init, cX7_init, 2, none)
abbrev mX7_in : ZM := (yX7_in, cX7_in, 6, some .boolean)
abbrev mX7_flag : ZM := (yX7_flag, cX7_flag, 1, some .int)
abbrev mX7_within : ZM := (yX7_within, cX7_within, 2, some .int)
abbrev mX7_firstDraft : ZM := (yX7_firstDraft, cX7_firstDraft, 2, none)
abbrev mX7_keepDraft : ZM := (yX7_keepDraft, cX7_keepDraft, 2, none)
abbrev mX7_feed : ZM := (yX7_feed, cX7_feed, 2, some .int)
abbrev mX7_end : ZM := (yX7_end, cX7_end, 3, some .int)
abbrev mX7_requires : ZM := (yX7_requires, cX7_requires, 3, none)
abbrev mX7_byteAt : ZM := (yX7_byteAt, cX7_byteAt, 2, some .int)
abbrev mX7_is : ZM := (yX7_is, cX7_is, 5, some .boolean)
abbrev mX7_endsIn : ZM := (yX7_endsIn, cX7_endsIn, 3, some .boolean)
abbrev mX7_lineNow : ZM := (yX7_lineNow, cX7_lineNow, 1, some .int)
abbrev mX7_reads : ZM := (yX7_reads, cX7_reads, 2, none)
abbrev mX7_readNumber : ZM := (yX7_readNumber, cX7_readNumber, 4, some .int)
abbrev mX7_readBand : ZM := (yX7_readBand, cX7_readBand, 2, none)
abbrev mX7_readLineOf : ZM := (yX7_readLineOf, cX7_readLineOf, 2, none)
abbrev mX7_readLine : ZM := (yX7_readLine, cX7_readLine, 2, none)
abbrev mX7_text : ZM := (yX7_text, cX7_text, 2, some .int)
abbrev mX7_fault : ZM := (yX7_fault, cX7_fault, 1, some .int)
abbrev mX7_isField : ZM := (yX7_isField, cX7_isField, 2, some .boolean)
abbrev mX7_isBand : ZM := (yX7_isBand, cX7_isBand, 2, some .boolean)
abbrev mX7_isPart : ZM := (yX7_isPart, cX7_isPart, 1, some .boolean)
abbrev mX7_areEars : ZM := (yX7_areEars, cX7_areEars, 1, some .boolean)
abbrev mX7_starts : ZM := (yX7_starts, cX7_starts, 2, none)
abbrev mX7_settles : ZM := (yX7_settles, cX7_settles, 2, none)
abbrev mX7_of : ZM := (yX7_of, cX7_of, 3, some .int)
abbrev mX7_becomesOf : ZM := (yX7_becomesOf, cX7_becomesOf, 4, none)
abbrev mX7_ofBand : ZM := (yX7_ofBand, cX7_ofBand, 3, some .int)
abbrev mX7_bandBecomes : ZM := (yX7_bandBecomes, cX7_bandBecomes, 4, none)
abbrev mX7_heardAt : ZM := (yX7_heardAt, cX7_heardAt, 4, some .int)
abbrev mX7_growsBy : ZM := (yX7_growsBy, cX7_growsBy, 3, some .int)
abbrev mX7_heeds : ZM := (yX7_heeds, cX7_heeds, 3, some .int)
abbrev mX7_fieldGoes : ZM := (yX7_fieldGoes, cX7_fieldGoes, 3, none)
abbrev mX7_weekGoes : ZM := (yX7_weekGoes, cX7_weekGoes, 3, none)
abbrev mX7_weeksGo : ZM := (yX7_weeksGo, cX7_weeksGo, 3, none)
abbrev mX7_sumOf : ZM := (yX7_sumOf, cX7_sumOf, 4, some .int)
abbrev mX7_earsBehind : ZM := (yX7_earsBehind, cX7_earsBehind, 2, some .int)
abbrev mX7_emptyNow : ZM := (yX7_emptyNow, cX7_emptyNow, 3, some .int)
abbrev mX7_rule : ZM := (yX7_rule, cX7_rule, 4, some .int)
abbrev mX7_field : ZM := (yX7_field, cX7_field, 3, some .int)
abbrev mX7_band : ZM := (yX7_band, cX7_band, 3, some .int)
abbrev mX7_becomes : ZM := (yX7_becomes, cX7_becomes, 4, some .int)
abbrev mX7_alter : ZM := (yX7_alter, cX7_alter, 5, some .int)
abbrev mX7_march : ZM := (yX7_march, cX7_march, 3, some .int)
abbrev mX7_play : ZM := (yX7_play, cX7_play, 3, some .int)
abbrev mX7_glut : ZM := (yX7_glut, cX7_glut, 2, some .int)
abbrev mX7_hire : ZM := (yX7_hire, cX7_hire, 3, some .int)
abbrev mX7_leave : ZM := (yX7_leave, cX7_leave, 2, some .int)
abbrev mX7_weeks : ZM := (yX7_weeks, cX7_weeks, 3, some .int)
abbrev mX7_isFar : ZM := (yX7_isFar, cX7_isFar, 1, some .boolean)
abbrev mX7_runs : ZM := (yX7_runs, cX7_runs, 3, some .int)
abbrev mX7_ahead : ZM := (yX7_ahead, cX7_ahead, 4, some .int)
abbrev mX7_late : ZM := (yX7_late, cX7_late, 4, some .int)
abbrev mX7_startsJudging : ZM := (yX7_startsJudging, cX7_startsJudging, 2, none)
abbrev mX7_judges : ZM := (yX7_judges, cX7_judges, 3, none)
abbrev mX7_judged : ZM := (yX7_judged, cX7_judged, 2, some .int)
abbrev mX7_findOrder : ZM := (yX7_findOrder, cX7_findOrder, 6, none)
abbrev mX7_order : ZM := (yX7_order, cX7_order, 2, some .int)
abbrev mX7_move : ZM := (yX7_move, cX7_move, 5, some .int)
abbrev mX7_still : ZM := (yX7_still, cX7_still, 4, some .int)
abbrev mX7_need : ZM := (yX7_need, cX7_need, 5, some .int)
abbrev mX7_swap : ZM := (yX7_swap, cX7_swap, 7, some .int)
abbrev mX7_bear : ZM := (yX7_bear, cX7_bear, 5, some .int)
abbrev mX7_kind : ZM := (yX7_kind, cX7_kind, 5, some .int)
abbrev mX7_common : ZM := (yX7_common, cX7_common, 10, some .long)
abbrev mX7_lowest : ZM := (yX7_lowest, cX7_lowest, 7, some .long)
abbrev mX7_findOdds : ZM := (yX7_findOdds, cX7_findOdds, 10, none)
abbrev mX7_luck : ZM := (yX7_luck, cX7_luck, 6, some .long)
abbrev mX7_mean : ZM := (yX7_mean, cX7_mean, 4, some .long)
abbrev mX7_see : ZM := (yX7_see, cX7_see, 5, some .int)
abbrev mX7_forget : ZM := (yX7_forget, cX7_forget, 2, some .int)
abbrev mX7_isSoWith : ZM := (yX7_isSoWith, cX7_isSoWith, 6, some .boolean)
abbrev mX7_which : ZM := (yX7_which, cX7_which, 5, some .int)
abbrev mX7_kinds : ZM := (yX7_kinds, cX7_kinds, 2, some .int)
abbrev mX7_blights : ZM := (yX7_blights, cX7_blights, 2, some .int)
abbrev mX7_ask : ZM := (yX7_ask, cX7_ask, 11, some .int)
abbrev mX7_drift : ZM := (yX7_drift, cX7_drift, 7, some .int)
abbrev mX7_copies : ZM := (yX7_copies, cX7_copies, 4, none)
abbrev mX7_keep : ZM := (yX7_keep, cX7_keep, 3, some .int)
abbrev mX7_back : ZM := (yX7_back, cX7_back, 2, some .int)
abbrev mX7_isSheet : ZM := (yX7_isSheet, cX7_isSheet, 2, some .boolean)
abbrev mX7_sheet : ZM := (yX7_sheet, cX7_sheet, 5, some .int)
abbrev mX7_lay : ZM := (yX7_lay, cX7_lay, 4, some .int)
abbrev mX7_read : ZM := (yX7_read, cX7_read, 11, some .int)
abbrev mX7_torn : ZM := (yX7_torn, cX7_torn, 1, some .int)
abbrev mX7_count : ZM := (yX7_count, cX7_count, 4, some .int)
abbrev mJ9_max_7cf53 : ZM := (yJ9_max_7cf53, cJ9_max_7cf53, 2, some .int)
abbrev mJ9_min_7cf53 : ZM := (yJ9_min_7cf53, cJ9_min_7cf53, 2, some .int)
abbrev mJ0_length_8abf5 : ZM := (yJ0_length_8abf5, cJ0_length_8abf5, 1, some .int)
abbrev mJ0_charAt_5068e : ZM := (yJ0_charAt_5068e, cJ0_charAt_5068e, 2, some .char)
abbrev mJ0_coder_7d493 : ZM := (yJ0_coder_7d493, cJ0_coder_7d493, 1, some .byte)
abbrev mJ0_isLatin1_aae02 : ZM := (yJ0_isLatin1_aae02, cJ0_isLatin1_aae02, 1, some .boolean)
abbrev mJ0_checkIndex_df160 : ZM := (yJ0_checkIndex_df160, cJ0_checkIndex_df160, 2, none)
abbrev mJ1_charAt_3b067 : ZM := (yJ1_charAt_3b067, cJ1_charAt_3b067, 2, some .char)
abbrev mJ2_getChar_3b067 : ZM := (yJ2_getChar_3b067, cJ2_getChar_3b067, 2, some .char)
abbrev mJ2_length_9d52b : ZM := (yJ2_length_9d52b, cJ2_length_9d52b, 1, some .int)
abbrev mJ2_charAt_3b067 : ZM := (yJ2_charAt_3b067, cJ2_charAt_3b067, 2, some .char)
abbrev mJ2_checkIndex_2214a : ZM := (yJ2_checkIndex_2214a, cJ2_checkIndex_2214a, 2, none)
abbrev mJ3_checkIndex_8e157 : ZM := (yJ3_checkIndex_8e157, cJ3_checkIndex_8e157, 3, some .int)
theorem zg_s_0 : ∀ w ∈ ([.selects yX5_nextToken.cls yX5_nextToken yX5_nextToken, .selects yX5_stretch.cls yX5_stretch yX5_stretch, .selects yX5_readNumber.cls yX5_readNumber yX5_readNumber, .selects yX5_takeLine.cls yX5_takeLine yX5_takeLine, .selects yX5_isToken.cls yX5_isToken yX5_isToken, .selects yX5_refuse.cls yX5_refuse yX5_refuse, .selects yX5_lineBegun.cls yX5_lineBegun yX5_lineBegun, .selects yX5_isNamed.cls yX5_isNamed yX5_isNamed, .selects yX5_takeGlut.cls yX5_takeGlut yX5_takeGlut, .selects yX5_takeNumber.cls yX5_takeNumber yX5_takeNumber, .selects yX5_takeSemicolon.cls yX5_takeSemicolon yX5_takeSemicolon, .selects yX5_takeBand.cls yX5_takeBand yX5_takeBand, .selects yX5_takeField.cls yX5_takeField yX5_takeField, .selects yX6_isField.cls yX6_isField yX6_isField, .selects yX6_isBand.cls yX6_isBand yX6_isBand, .selects yX3_weigh.cls yX3_weigh yX3_weigh, .selects yX3_beginRows.cls yX3_beginRows yX3_beginRows, .selects yX3_nextRow.cls yX3_nextRow yX3_nextRow, .selects yX3_place.cls yX3_place yX3_place, .selects yX3_toggle.cls yX3_toggle yX3_toggle, .selects yX6_sheavesWithout.cls yX6_sheavesWithout yX6_sheavesWithout, .selects yX1_part.cls yX1_part yX1_part, .selects yX1_passWeek.cls yX1_passWeek yX1_passWeek, .selects yX6_blightsAsSeen.cls yX6_blightsAsSeen yX6_blightsAsSeen, .selects yX7_firstDraft.cls yX7_firstDraft yX7_firstDraft, .selects yX7_keepDraft.cls yX7_keepDraft yX7_keepDraft, .selects yX7_reads.cls yX7_reads yX7_reads, .selects yX7_byteAt.cls yX7_byteAt yX7_byteAt, .selects yX7_requires.cls yX7_requires yX7_requires, .selects yX7_readLine.cls yX7_readLine yX7_readLine, .selects yX7_lineNow.cls yX7_lineNow yX7_lineNow, .selects yX7_is.cls yX7_is yX7_is] : List Cond), zok w = true → w ∈ zW := fun w h h3 => by
  have h1 : ([.selects yX5_nextToken.cls yX5_nextToken yX5_nextToken, .selects yX5_stretch.cls yX5_stretch yX5_stretch, .selects yX5_readNumber.cls yX5_readNumber yX5_readNumber, .selects yX5_takeLine.cls yX5_takeLine yX5_takeLine, .selects yX5_isToken.cls yX5_isToken yX5_isToken, .selects yX5_refuse.cls yX5_refuse yX5_refuse, .selects yX5_lineBegun.cls yX5_lineBegun yX5_lineBegun, .selects yX5_isNamed.cls yX5_isNamed yX5_isNamed, .selects yX5_takeGlut.cls yX5_takeGlut yX5_takeGlut, .selects yX5_takeNumber.cls yX5_takeNumber yX5_takeNumber, .selects yX5_takeSemicolon.cls yX5_takeSemicolon yX5_takeSemicolon, .selects yX5_takeBand.cls yX5_takeBand yX5_takeBand, .selects yX5_takeField.cls yX5_takeField yX5_takeField, .selects yX6_isField.cls yX6_isField yX6_isField, .selects yX6_isBand.cls yX6_isBand yX6_isBand, .selects yX3_weigh.cls yX3_weigh yX3_weigh, .selects yX3_beginRows.cls yX3_beginRows yX3_beginRows, .selects yX3_nextRow.cls yX3_nextRow yX3_nextRow, .selects yX3_place.cls yX3_place yX3_place, .selects yX3_toggle.cls yX3_toggle yX3_toggle, .selects yX6_sheavesWithout.cls yX6_sheavesWithout yX6_sheavesWithout, .selects yX1_part.cls yX1_part yX1_part, .selects yX1_passWeek.cls yX1_passWeek yX1_passWeek, .selects yX6_blightsAsSeen.cls yX6_blightsAsSeen yX6_blightsAsSeen, .selects yX7_firstDraft.cls yX7_firstDraft yX7_firstDraft, .selects yX7_keepDraft.cls yX7_keepDraft yX7_keepDraft, .selects yX7_reads.cls yX7_reads yX7_reads, .selects yX7_byteAt.cls yX7_byteAt yX7_byteAt, .selects yX7_requires.cls yX7_requires yX7_requires, .selects yX7_readLine.cls yX7_readLine yX7_readLine, .selects yX7_lineNow.cls yX7_lineNow yX7_lineNow, .selects yX7_is.cls yX7_is yX7_is] : List Cond) = ((k2_sels lw_privs).drop 0).take 32 := rfl
  rw [h1] at h
  have h4 := List.mem_of_mem_drop (List.mem_of_mem_take h)
  exact List.mem_filter.mpr ⟨List.mem_append_left _ h4, h3⟩
theorem zg_s_1 : ∀ w ∈ ([.selects yX7_endsIn.cls yX7_endsIn yX7_endsIn, .selects yX7_readLineOf.cls yX7_readLineOf yX7_readLineOf, .selects yX7_readBand.cls yX7_readBand yX7_readBand, .selects yX7_readNumber.cls yX7_readNumber yX7_readNumber, .selects yX7_starts.cls yX7_starts yX7_starts, .selects yX7_heardAt.cls yX7_heardAt yX7_heardAt, .selects yX7_ofBand.cls yX7_ofBand yX7_ofBand, .selects yX7_sumOf.cls yX7_sumOf yX7_sumOf, .selects yX7_of.cls yX7_of yX7_of, .selects yX7_isField.cls yX7_isField yX7_isField, .selects yX7_growsBy.cls yX7_growsBy yX7_growsBy, .selects yX7_heeds.cls yX7_heeds yX7_heeds, .selects yX7_isBand.cls yX7_isBand yX7_isBand, .selects yX7_becomes.cls yX7_becomes yX7_becomes, .selects yX7_earsBehind.cls yX7_earsBehind yX7_earsBehind, .selects yX7_weeksGo.cls yX7_weeksGo yX7_weeksGo, .selects yX7_weekGoes.cls yX7_weekGoes yX7_weekGoes, .selects yX7_becomesOf.cls yX7_becomesOf yX7_becomesOf, .selects yX7_fieldGoes.cls yX7_fieldGoes yX7_fieldGoes, .selects yX7_settles.cls yX7_settles yX7_settles, .selects yX7_emptyNow.cls yX7_emptyNow yX7_emptyNow, .selects yX7_findOrder.cls yX7_findOrder yX7_findOrder, .selects yX7_startsJudging.cls yX7_startsJudging yX7_startsJudging, .selects yX7_bandBecomes.cls yX7_bandBecomes yX7_bandBecomes, .selects yX7_judges.cls yX7_judges yX7_judges, .selects yX7_judged.cls yX7_judged yX7_judged, .selects yX7_findOdds.cls yX7_findOdds yX7_findOdds, .selects yX7_which.cls yX7_which yX7_which, .selects yX7_isSoWith.cls yX7_isSoWith yX7_isSoWith, .selects yX7_copies.cls yX7_copies yX7_copies] : List Cond), zok w = true → w ∈ zW := fun w h h3 => by
  have h1 : ([.selects yX7_endsIn.cls yX7_endsIn yX7_endsIn, .selects yX7_readLineOf.cls yX7_readLineOf yX7_readLineOf, .selects yX7_readBand.cls yX7_readBand yX7_readBand, .selects yX7_readNumber.cls yX7_readNumber yX7_readNumber, .selects yX7_starts.cls yX7_starts yX7_starts, .selects yX7_heardAt.cls yX7_heardAt yX7_heardAt, .selects yX7_ofBand.cls yX7_ofBand yX7_ofBand, .selects yX7_sumOf.cls yX7_sumOf yX7_sumOf, .selects yX7_of.cls yX7_of yX7_of, .selects yX7_isField.cls yX7_isField yX7_isField, .selects yX7_growsBy.cls yX7_growsBy yX7_growsBy, .selects yX7_heeds.cls yX7_heeds yX7_heeds, .selects yX7_isBand.cls yX7_isBand yX7_isBand, .selects yX7_becomes.cls yX7_becomes yX7_becomes, .selects yX7_earsBehind.cls yX7_earsBehind yX7_earsBehind, .selects yX7_weeksGo.cls yX7_weeksGo yX7_weeksGo, .selects yX7_weekGoes.cls yX7_weekGoes yX7_weekGoes, .selects yX7_becomesOf.cls yX7_becomesOf yX7_becomesOf, .selects yX7_fieldGoes.cls yX7_fieldGoes yX7_fieldGoes, .selects yX7_settles.cls yX7_settles yX7_settles, .selects yX7_emptyNow.cls yX7_emptyNow yX7_emptyNow, .selects yX7_findOrder.cls yX7_findOrder yX7_findOrder, .selects yX7_startsJudging.cls yX7_startsJudging yX7_startsJudging, .selects yX7_bandBecomes.cls yX7_bandBecomes yX7_bandBecomes, .selects yX7_judges.cls yX7_judges yX7_judges, .selects yX7_judged.cls yX7_judged yX7_judged, .selects yX7_findOdds.cls yX7_findOdds yX7_findOdds, .selects yX7_which.cls yX7_which yX7_which, .selects yX7_isSoWith.cls yX7_isSoWith yX7_isSoWith, .selects yX7_copies.cls yX7_copies yX7_copies] : List Cond) = ((k2_sels lw_privs).drop 32).take 32 := rfl
  rw [h1] at h
  have h4 := List.mem_of_mem_drop (List.mem_of_mem_take h)
  exact List.mem_filter.mpr ⟨List.mem_append_left _ h4, h3⟩
theorem zg_1_0 : ∀ w ∈ ([.initialized "PraisedFieldsLaw", .initialized "PraisedFields", .initialized "PraisedFields$Land", .initialized "PraisedFields$Tape", .initialized "PraisedFields$Orders", .initialized "PraisedFields$Hail", .initialized "PraisedFields$Guesses", .initialized "PraisedFields$Sheets", .initialized "PraisedFieldsModel", .initialized "java/lang/Math", .initialized "java/lang/String", .initialized "java/lang/StringLatin1", .initialized "jdk/internal/util/Preconditions", .initialized "java/lang/StringUTF16", .initialized "java/lang/System", .classLink "PraisedFieldsLaw" 7 "PraisedFields", .instantiable "PraisedFields" 10, .methodLink "PraisedFieldsLaw" 9 yX6_init, .instanceMethod yX6_init, .code yX6_init prog_1_method_1_code 1 none, .methodLink "PraisedFields" 1 ⟨"java/lang/Object", "<init>", "()V"⟩, .instanceMethod ⟨"java/lang/Object", "<init>", "()V"⟩, .code ⟨"java/lang/Object", "<init>", "()V"⟩ object_method_1_code 1 none, .classLink "PraisedFields" 7 "PraisedFields$Land", .instantiable "PraisedFields$Land" 14, .methodLinkNest "PraisedFields" 9 yX2_init "PraisedFields", .instanceMethod yX2_init, .code yX2_init prog_4_method_1_code 1 none, .methodLink "PraisedFields$Land" 3 ⟨"java/lang/Object", "<init>", "()V"⟩, .fieldLink "PraisedFields$Land" 9 "PraisedFields$Land" "kindOf" "[I", .fieldLink "PraisedFields$Hail" 38 "PraisedFields$Land" "kindOf" "[I", .fieldLink "PraisedFields" 120 "PraisedFields$Land" "kindOf" "[I"] : List Cond), zok w = true → w ∈ zW := fun w h h3 => by
  have h1 : ([.initialized "PraisedFieldsLaw", .initialized "PraisedFields", .initialized "PraisedFields$Land", .initialized "PraisedFields$Tape", .initialized "PraisedFields$Orders", .initialized "PraisedFields$Hail", .initialized "PraisedFields$Guesses", .initialized "PraisedFields$Sheets", .initialized "PraisedFieldsModel", .initialized "java/lang/Math", .initialized "java/lang/String", .initialized "java/lang/StringLatin1", .initialized "jdk/internal/util/Preconditions", .initialized "java/lang/StringUTF16", .initialized "java/lang/System", .classLink "PraisedFieldsLaw" 7 "PraisedFields", .instantiable "PraisedFields" 10, .methodLink "PraisedFieldsLaw" 9 yX6_init, .instanceMethod yX6_init, .code yX6_init prog_1_method_1_code 1 none, .methodLink "PraisedFields" 1 ⟨"java/lang/Object", "<init>", "()V"⟩, .instanceMethod ⟨"java/lang/Object", "<init>", "()V"⟩, .code ⟨"java/lang/Object", "<init>", "()V"⟩ object_method_1_code 1 none, .classLink "PraisedFields" 7 "PraisedFields$Land", .instantiable "PraisedFields$Land" 14, .methodLinkNest "PraisedFields" 9 yX2_init "PraisedFields", .instanceMethod yX2_init, .code yX2_init prog_4_method_1_code 1 none, .methodLink "PraisedFields$Land" 3 ⟨"java/lang/Object", "<init>", "()V"⟩, .fieldLink "PraisedFields$Land" 9 "PraisedFields$Land" "kindOf" "[I", .fieldLink "PraisedFields$Hail" 38 "PraisedFields$Land" "kindOf" "[I", .fieldLink "PraisedFields" 120 "PraisedFields$Land" "kindOf" "[I"] : List Cond) = ((tables_1_1).drop 0).take 32 := rfl
  rw [h1] at h
  have h4 := List.mem_of_mem_drop (List.mem_of_mem_take h)
  exact List.mem_filter.mpr ⟨List.mem_append_right _ (List.mem_append_left _ h4), h3⟩
theorem zg_1_1 : ∀ w ∈ ([.fieldLink "PraisedFields$Land" 15 "PraisedFields$Land" "ears" "[I", .fieldLink "PraisedFields$Hail" 32 "PraisedFields$Land" "ears" "[I", .fieldLink "PraisedFields" 124 "PraisedFields$Land" "ears" "[I", .fieldLink "PraisedFields$Land" 18 "PraisedFields$Land" "blight" "[I", .fieldLink "PraisedFields$Hail" 33 "PraisedFields$Land" "blight" "[I", .fieldLink "PraisedFields" 127 "PraisedFields$Land" "blight" "[I", .fieldLink "PraisedFields$Land" 21 "PraisedFields$Land" "at" "[I", .fieldLink "PraisedFields$Tape" 56 "PraisedFields$Land" "at" "[I", .fieldLink "PraisedFields" 140 "PraisedFields$Land" "at" "[I", .fieldLink "PraisedFields$Land" 24 "PraisedFields$Land" "loud" "[I", .fieldLink "PraisedFields$Orders" 55 "PraisedFields$Land" "loud" "[I", .fieldLink "PraisedFields" 143 "PraisedFields$Land" "loud" "[I", .fieldLink "PraisedFields$Land" 27 "PraisedFields$Land" "seenWeeks" "[I", .fieldLink "PraisedFields$Land" 30 "PraisedFields$Land" "seenField" "[I", .fieldLink "PraisedFields$Land" 33 "PraisedFields$Land" "seenEars" "[I", .fieldLink "PraisedFields$Land" 36 "PraisedFields$Land" "fieldCount" "I", .fieldLink "PraisedFields$Orders" 43 "PraisedFields$Land" "fieldCount" "I", .fieldLink "PraisedFields$Tape" 60 "PraisedFields$Land" "fieldCount" "I", .fieldLink "PraisedFields" 91 "PraisedFields$Land" "fieldCount" "I", .fieldLink "PraisedFields$Land" 40 "PraisedFields$Land" "bandCount" "I", .fieldLink "PraisedFields$Orders" 38 "PraisedFields$Land" "bandCount" "I", .fieldLink "PraisedFields$Tape" 53 "PraisedFields$Land" "bandCount" "I", .fieldLink "PraisedFields" 94 "PraisedFields$Land" "bandCount" "I", .fieldLink "PraisedFields$Land" 43 "PraisedFields$Land" "seenCount" "I", .fieldLink "PraisedFields" 225 "PraisedFields$Land" "seenCount" "I", .fieldLink "PraisedFields$Land" 46 "PraisedFields$Land" "glutFrom" "I", .fieldLink "PraisedFields" 107 "PraisedFields$Land" "glutFrom" "I", .fieldLink "PraisedFields$Tape" 99 "PraisedFields$Land" "glutFrom" "I", .fieldLink "PraisedFields$Land" 49 "PraisedFields$Land" "sheaves" "I", .fieldLink "PraisedFields" 100 "PraisedFields$Land" "sheaves" "I", .fieldLink "PraisedFields$Land" 52 "PraisedFields$Land" "week" "I", .fieldLink "PraisedFields" 97 "PraisedFields$Land" "week" "I"] : List Cond), zok w = true → w ∈ zW := fun w h h3 => by
  have h1 : ([.fieldLink "PraisedFields$Land" 15 "PraisedFields$Land" "ears" "[I", .fieldLink "PraisedFields$Hail" 32 "PraisedFields$Land" "ears" "[I", .fieldLink "PraisedFields" 124 "PraisedFields$Land" "ears" "[I", .fieldLink "PraisedFields$Land" 18 "PraisedFields$Land" "blight" "[I", .fieldLink "PraisedFields$Hail" 33 "PraisedFields$Land" "blight" "[I", .fieldLink "PraisedFields" 127 "PraisedFields$Land" "blight" "[I", .fieldLink "PraisedFields$Land" 21 "PraisedFields$Land" "at" "[I", .fieldLink "PraisedFields$Tape" 56 "PraisedFields$Land" "at" "[I", .fieldLink "PraisedFields" 140 "PraisedFields$Land" "at" "[I", .fieldLink "PraisedFields$Land" 24 "PraisedFields$Land" "loud" "[I", .fieldLink "PraisedFields$Orders" 55 "PraisedFields$Land" "loud" "[I", .fieldLink "PraisedFields" 143 "PraisedFields$Land" "loud" "[I", .fieldLink "PraisedFields$Land" 27 "PraisedFields$Land" "seenWeeks" "[I", .fieldLink "PraisedFields$Land" 30 "PraisedFields$Land" "seenField" "[I", .fieldLink "PraisedFields$Land" 33 "PraisedFields$Land" "seenEars" "[I", .fieldLink "PraisedFields$Land" 36 "PraisedFields$Land" "fieldCount" "I", .fieldLink "PraisedFields$Orders" 43 "PraisedFields$Land" "fieldCount" "I", .fieldLink "PraisedFields$Tape" 60 "PraisedFields$Land" "fieldCount" "I", .fieldLink "PraisedFields" 91 "PraisedFields$Land" "fieldCount" "I", .fieldLink "PraisedFields$Land" 40 "PraisedFields$Land" "bandCount" "I", .fieldLink "PraisedFields$Orders" 38 "PraisedFields$Land" "bandCount" "I", .fieldLink "PraisedFields$Tape" 53 "PraisedFields$Land" "bandCount" "I", .fieldLink "PraisedFields" 94 "PraisedFields$Land" "bandCount" "I", .fieldLink "PraisedFields$Land" 43 "PraisedFields$Land" "seenCount" "I", .fieldLink "PraisedFields" 225 "PraisedFields$Land" "seenCount" "I", .fieldLink "PraisedFields$Land" 46 "PraisedFields$Land" "glutFrom" "I", .fieldLink "PraisedFields" 107 "PraisedFields$Land" "glutFrom" "I", .fieldLink "PraisedFields$Tape" 99 "PraisedFields$Land" "glutFrom" "I", .fieldLink "PraisedFields$Land" 49 "PraisedFields$Land" "sheaves" "I", .fieldLink "PraisedFields" 100 "PraisedFields$Land" "sheaves" "I", .fieldLink "PraisedFields$Land" 52 "PraisedFields$Land" "week" "I", .fieldLink "PraisedFields" 97 "PraisedFields$Land" "week" "I"] : List Cond) = ((tables_1_1).drop 32).take 32 := rfl
  rw [h1] at h
  have h4 := List.mem_of_mem_drop (List.mem_of_mem_take h)
  exact List.mem_filter.mpr ⟨List.mem_append_right _ (List.mem_append_left _ h4), h3⟩
theorem zg_1_2 : ∀ w ∈ ([.laysFinal "PraisedFields$Land" "PraisedFields$Land" "kindOf" "[I", .soleField "PraisedFields$Land" "kindOf", .laysFinal "PraisedFields$Land" "PraisedFields$Land" "ears" "[I", .soleField "PraisedFields$Land" "ears", .laysFinal "PraisedFields$Land" "PraisedFields$Land" "blight" "[I", .soleField "PraisedFields$Land" "blight", .laysFinal "PraisedFields$Land" "PraisedFields$Land" "at" "[I", .soleField "PraisedFields$Land" "at", .laysFinal "PraisedFields$Land" "PraisedFields$Land" "loud" "[I", .soleField "PraisedFields$Land" "loud", .laysFinal "PraisedFields$Land" "PraisedFields$Land" "seenWeeks" "[I", .soleField "PraisedFields$Land" "seenWeeks", .laysFinal "PraisedFields$Land" "PraisedFields$Land" "seenField" "[I", .soleField "PraisedFields$Land" "seenField", .laysFinal "PraisedFields$Land" "PraisedFields$Land" "seenEars" "[I", .soleField "PraisedFields$Land" "seenEars", .lays "PraisedFields$Land" "PraisedFields$Land" "fieldCount" "I", .soleField "PraisedFields$Land" "fieldCount", .lays "PraisedFields$Land" "PraisedFields$Land" "bandCount" "I", .soleField "PraisedFields$Land" "bandCount", .lays "PraisedFields$Land" "PraisedFields$Land" "seenCount" "I", .soleField "PraisedFields$Land" "seenCount", .lays "PraisedFields$Land" "PraisedFields$Land" "glutFrom" "I", .soleField "PraisedFields$Land" "glutFrom", .lays "PraisedFields$Land" "PraisedFields$Land" "sheaves" "I", .soleField "PraisedFields$Land" "sheaves", .lays "PraisedFields$Land" "PraisedFields$Land" "week" "I", .soleField "PraisedFields$Land" "week", .superclass "PraisedFields$Land" "java/lang/Object", .arrayClass .int, .arrayOver (.object "PraisedFields$Land"), .classLink "PraisedFields" 27 "PraisedFields$Tape"] : List Cond), zok w = true → w ∈ zW := fun w h h3 => by
  have h1 : ([.laysFinal "PraisedFields$Land" "PraisedFields$Land" "kindOf" "[I", .soleField "PraisedFields$Land" "kindOf", .laysFinal "PraisedFields$Land" "PraisedFields$Land" "ears" "[I", .soleField "PraisedFields$Land" "ears", .laysFinal "PraisedFields$Land" "PraisedFields$Land" "blight" "[I", .soleField "PraisedFields$Land" "blight", .laysFinal "PraisedFields$Land" "PraisedFields$Land" "at" "[I", .soleField "PraisedFields$Land" "at", .laysFinal "PraisedFields$Land" "PraisedFields$Land" "loud" "[I", .soleField "PraisedFields$Land" "loud", .laysFinal "PraisedFields$Land" "PraisedFields$Land" "seenWeeks" "[I", .soleField "PraisedFields$Land" "seenWeeks", .laysFinal "PraisedFields$Land" "PraisedFields$Land" "seenField" "[I", .soleField "PraisedFields$Land" "seenField", .laysFinal "PraisedFields$Land" "PraisedFields$Land" "seenEars" "[I", .soleField "PraisedFields$Land" "seenEars", .lays "PraisedFields$Land" "PraisedFields$Land" "fieldCount" "I", .soleField "PraisedFields$Land" "fieldCount", .lays "PraisedFields$Land" "PraisedFields$Land" "bandCount" "I", .soleField "PraisedFields$Land" "bandCount", .lays "PraisedFields$Land" "PraisedFields$Land" "seenCount" "I", .soleField "PraisedFields$Land" "seenCount", .lays "PraisedFields$Land" "PraisedFields$Land" "glutFrom" "I", .soleField "PraisedFields$Land" "glutFrom", .lays "PraisedFields$Land" "PraisedFields$Land" "sheaves" "I", .soleField "PraisedFields$Land" "sheaves", .lays "PraisedFields$Land" "PraisedFields$Land" "week" "I", .soleField "PraisedFields$Land" "week", .superclass "PraisedFields$Land" "java/lang/Object", .arrayClass .int, .arrayOver (.object "PraisedFields$Land"), .classLink "PraisedFields" 27 "PraisedFields$Tape"] : List Cond) = ((tables_1_1).drop 64).take 32 := rfl
  rw [h1] at h
  have h4 := List.mem_of_mem_drop (List.mem_of_mem_take h)
  exact List.mem_filter.mpr ⟨List.mem_append_right _ (List.mem_append_left _ h4), h3⟩
theorem zg_1_3 : ∀ w ∈ ([.instantiable "PraisedFields$Tape" 9, .methodLinkNest "PraisedFields" 29 yX5_init "PraisedFields", .instanceMethod yX5_init, .code yX5_init prog_7_method_1_code 1 none, .methodLink "PraisedFields$Tape" 3 ⟨"java/lang/Object", "<init>", "()V"⟩, .fieldLink "PraisedFields$Tape" 11 "PraisedFields$Tape" "bytes" "[B", .fieldLink "PraisedFields$Tape" 15 "PraisedFields$Tape" "length" "I", .fieldLink "PraisedFields" 74 "PraisedFields$Tape" "length" "I", .fieldLink "PraisedFields$Tape" 19 "PraisedFields$Tape" "fault" "I", .fieldLink "PraisedFields" 88 "PraisedFields$Tape" "fault" "I", .fieldLink "PraisedFields$Tape" 22 "PraisedFields$Tape" "faultPlace" "I", .fieldLink "PraisedFields" 81 "PraisedFields$Tape" "faultPlace" "I", .fieldLink "PraisedFields$Tape" 25 "PraisedFields$Tape" "place" "I", .fieldLink "PraisedFields$Tape" 28 "PraisedFields$Tape" "token" "I", .fieldLink "PraisedFields$Tape" 31 "PraisedFields$Tape" "start" "I", .fieldLink "PraisedFields$Tape" 34 "PraisedFields$Tape" "value" "I", .fieldLink "PraisedFields$Tape" 37 "PraisedFields$Tape" "glutTold" "Z", .laysFinal "PraisedFields$Tape" "PraisedFields$Tape" "bytes" "[B", .soleField "PraisedFields$Tape" "bytes", .lays "PraisedFields$Tape" "PraisedFields$Tape" "length" "I", .soleField "PraisedFields$Tape" "length", .lays "PraisedFields$Tape" "PraisedFields$Tape" "fault" "I", .soleField "PraisedFields$Tape" "fault", .lays "PraisedFields$Tape" "PraisedFields$Tape" "faultPlace" "I", .soleField "PraisedFields$Tape" "faultPlace", .lays "PraisedFields$Tape" "PraisedFields$Tape" "place" "I", .soleField "PraisedFields$Tape" "place", .lays "PraisedFields$Tape" "PraisedFields$Tape" "token" "I", .soleField "PraisedFields$Tape" "token", .lays "PraisedFields$Tape" "PraisedFields$Tape" "start" "I", .soleField "PraisedFields$Tape" "start", .lays "PraisedFields$Tape" "PraisedFields$Tape" "value" "I"] : List Cond), zok w = true → w ∈ zW := fun w h h3 => by
  have h1 : ([.instantiable "PraisedFields$Tape" 9, .methodLinkNest "PraisedFields" 29 yX5_init "PraisedFields", .instanceMethod yX5_init, .code yX5_init prog_7_method_1_code 1 none, .methodLink "PraisedFields$Tape" 3 ⟨"java/lang/Object", "<init>", "()V"⟩, .fieldLink "PraisedFields$Tape" 11 "PraisedFields$Tape" "bytes" "[B", .fieldLink "PraisedFields$Tape" 15 "PraisedFields$Tape" "length" "I", .fieldLink "PraisedFields" 74 "PraisedFields$Tape" "length" "I", .fieldLink "PraisedFields$Tape" 19 "PraisedFields$Tape" "fault" "I", .fieldLink "PraisedFields" 88 "PraisedFields$Tape" "fault" "I", .fieldLink "PraisedFields$Tape" 22 "PraisedFields$Tape" "faultPlace" "I", .fieldLink "PraisedFields" 81 "PraisedFields$Tape" "faultPlace" "I", .fieldLink "PraisedFields$Tape" 25 "PraisedFields$Tape" "place" "I", .fieldLink "PraisedFields$Tape" 28 "PraisedFields$Tape" "token" "I", .fieldLink "PraisedFields$Tape" 31 "PraisedFields$Tape" "start" "I", .fieldLink "PraisedFields$Tape" 34 "PraisedFields$Tape" "value" "I", .fieldLink "PraisedFields$Tape" 37 "PraisedFields$Tape" "glutTold" "Z", .laysFinal "PraisedFields$Tape" "PraisedFields$Tape" "bytes" "[B", .soleField "PraisedFields$Tape" "bytes", .lays "PraisedFields$Tape" "PraisedFields$Tape" "length" "I", .soleField "PraisedFields$Tape" "length", .lays "PraisedFields$Tape" "PraisedFields$Tape" "fault" "I", .soleField "PraisedFields$Tape" "fault", .lays "PraisedFields$Tape" "PraisedFields$Tape" "faultPlace" "I", .soleField "PraisedFields$Tape" "faultPlace", .lays "PraisedFields$Tape" "PraisedFields$Tape" "place" "I", .soleField "PraisedFields$Tape" "place", .lays "PraisedFields$Tape" "PraisedFields$Tape" "token" "I", .soleField "PraisedFields$Tape" "token", .lays "PraisedFields$Tape" "PraisedFields$Tape" "start" "I", .soleField "PraisedFields$Tape" "start", .lays "PraisedFields$Tape" "PraisedFields$Tape" "value" "I"] : List Cond) = ((tables_1_1).drop 96).take 32 := rfl
  rw [h1] at h
  have h4 := List.mem_of_mem_drop (List.mem_of_mem_take h)
  exact List.mem_filter.mpr ⟨List.mem_append_right _ (List.mem_append_left _ h4), h3⟩
theorem zg_1_4 : ∀ w ∈ ([.soleField "PraisedFields$Tape" "value", .lays "PraisedFields$Tape" "PraisedFields$Tape" "glutTold" "Z", .soleField "PraisedFields$Tape" "glutTold", .superclass "PraisedFields$Tape" "java/lang/Object", .arrayClass .boolean, .arrayClass .byte, .classLink "PraisedFields" 34 "PraisedFields$Orders", .instantiable "PraisedFields$Orders" 6, .methodLinkNest "PraisedFields" 36 yX3_init "PraisedFields", .instanceMethod yX3_init, .code yX3_init prog_5_method_1_code 1 none, .methodLink "PraisedFields$Orders" 3 ⟨"java/lang/Object", "<init>", "()V"⟩, .fieldLink "PraisedFields$Orders" 11 "PraisedFields$Orders" "earsBy" "[I", .fieldLink "PraisedFields$Orders" 15 "PraisedFields$Orders" "setAt" "[I", .fieldLink "PraisedFields$Orders" 18 "PraisedFields$Orders" "row" "[I", .fieldLink "PraisedFields$Orders" 21 "PraisedFields$Orders" "bestRow" "[I", .fieldLink "PraisedFields" 183 "PraisedFields$Orders" "bestRow" "[I", .fieldLink "PraisedFields$Orders" 24 "PraisedFields$Orders" "total" "I", .fieldLink "PraisedFields$Orders" 28 "PraisedFields$Orders" "best" "I", .fieldLink "PraisedFields" 180 "PraisedFields$Orders" "best" "I", .laysFinal "PraisedFields$Orders" "PraisedFields$Orders" "earsBy" "[I", .soleField "PraisedFields$Orders" "earsBy", .laysFinal "PraisedFields$Orders" "PraisedFields$Orders" "setAt" "[I", .soleField "PraisedFields$Orders" "setAt", .laysFinal "PraisedFields$Orders" "PraisedFields$Orders" "row" "[I", .soleField "PraisedFields$Orders" "row", .laysFinal "PraisedFields$Orders" "PraisedFields$Orders" "bestRow" "[I", .soleField "PraisedFields$Orders" "bestRow", .lays "PraisedFields$Orders" "PraisedFields$Orders" "total" "I", .soleField "PraisedFields$Orders" "total", .lays "PraisedFields$Orders" "PraisedFields$Orders" "best" "I", .soleField "PraisedFields$Orders" "best"] : List Cond), zok w = true → w ∈ zW := fun w h h3 => by
  have h1 : ([.soleField "PraisedFields$Tape" "value", .lays "PraisedFields$Tape" "PraisedFields$Tape" "glutTold" "Z", .soleField "PraisedFields$Tape" "glutTold", .superclass "PraisedFields$Tape" "java/lang/Object", .arrayClass .boolean, .arrayClass .byte, .classLink "PraisedFields" 34 "PraisedFields$Orders", .instantiable "PraisedFields$Orders" 6, .methodLinkNest "PraisedFields" 36 yX3_init "PraisedFields", .instanceMethod yX3_init, .code yX3_init prog_5_method_1_code 1 none, .methodLink "PraisedFields$Orders" 3 ⟨"java/lang/Object", "<init>", "()V"⟩, .fieldLink "PraisedFields$Orders" 11 "PraisedFields$Orders" "earsBy" "[I", .fieldLink "PraisedFields$Orders" 15 "PraisedFields$Orders" "setAt" "[I", .fieldLink "PraisedFields$Orders" 18 "PraisedFields$Orders" "row" "[I", .fieldLink "PraisedFields$Orders" 21 "PraisedFields$Orders" "bestRow" "[I", .fieldLink "PraisedFields" 183 "PraisedFields$Orders" "bestRow" "[I", .fieldLink "PraisedFields$Orders" 24 "PraisedFields$Orders" "total" "I", .fieldLink "PraisedFields$Orders" 28 "PraisedFields$Orders" "best" "I", .fieldLink "PraisedFields" 180 "PraisedFields$Orders" "best" "I", .laysFinal "PraisedFields$Orders" "PraisedFields$Orders" "earsBy" "[I", .soleField "PraisedFields$Orders" "earsBy", .laysFinal "PraisedFields$Orders" "PraisedFields$Orders" "setAt" "[I", .soleField "PraisedFields$Orders" "setAt", .laysFinal "PraisedFields$Orders" "PraisedFields$Orders" "row" "[I", .soleField "PraisedFields$Orders" "row", .laysFinal "PraisedFields$Orders" "PraisedFields$Orders" "bestRow" "[I", .soleField "PraisedFields$Orders" "bestRow", .lays "PraisedFields$Orders" "PraisedFields$Orders" "total" "I", .soleField "PraisedFields$Orders" "total", .lays "PraisedFields$Orders" "PraisedFields$Orders" "best" "I", .soleField "PraisedFields$Orders" "best"] : List Cond) = ((tables_1_1).drop 128).take 32 := rfl
  rw [h1] at h
  have h4 := List.mem_of_mem_drop (List.mem_of_mem_take h)
  exact List.mem_filter.mpr ⟨List.mem_append_right _ (List.mem_append_left _ h4), h3⟩
theorem zg_1_5 : ∀ w ∈ ([.superclass "PraisedFields$Orders" "java/lang/Object", .classLink "PraisedFields" 41 "PraisedFields$Hail", .instantiable "PraisedFields$Hail" 4, .methodLinkNest "PraisedFields" 43 yX1_init "PraisedFields", .instanceMethod yX1_init, .code yX1_init prog_3_method_1_code 1 none, .methodLink "PraisedFields$Hail" 3 ⟨"java/lang/Object", "<init>", "()V"⟩, .fieldLink "PraisedFields$Hail" 11 "PraisedFields$Hail" "ears" "[I", .fieldLink "PraisedFields$Hail" 15 "PraisedFields$Hail" "blight" "[I", .fieldLink "PraisedFields$Hail" 18 "PraisedFields$Hail" "weight" "[J", .fieldLink "PraisedFields$Hail" 22 "PraisedFields$Hail" "ways" "I", .laysFinal "PraisedFields$Hail" "PraisedFields$Hail" "ears" "[I", .soleField "PraisedFields$Hail" "ears", .laysFinal "PraisedFields$Hail" "PraisedFields$Hail" "blight" "[I", .soleField "PraisedFields$Hail" "blight", .laysFinal "PraisedFields$Hail" "PraisedFields$Hail" "weight" "[J", .soleField "PraisedFields$Hail" "weight", .lays "PraisedFields$Hail" "PraisedFields$Hail" "ways" "I", .soleField "PraisedFields$Hail" "ways", .superclass "PraisedFields$Hail" "java/lang/Object", .arrayClass .long, .classLink "PraisedFields" 48 "PraisedFields$Guesses", .instantiable "PraisedFields$Guesses" 3, .methodLinkNest "PraisedFields" 50 yX0_init "PraisedFields", .instanceMethod yX0_init, .code yX0_init prog_2_method_1_code 1 none, .methodLink "PraisedFields$Guesses" 3 ⟨"java/lang/Object", "<init>", "()V"⟩, .fieldLink "PraisedFields$Guesses" 9 "PraisedFields$Guesses" "ears" "[I", .fieldLink "PraisedFields$Guesses" 15 "PraisedFields$Guesses" "blight" "[I", .fieldLink "PraisedFields$Guesses" 18 "PraisedFields$Guesses" "size" "I", .fieldLink "PraisedFields" 238 "PraisedFields$Guesses" "size" "I", .laysFinal "PraisedFields$Guesses" "PraisedFields$Guesses" "ears" "[I"] : List Cond), zok w = true → w ∈ zW := fun w h h3 => by
  have h1 : ([.superclass "PraisedFields$Orders" "java/lang/Object", .classLink "PraisedFields" 41 "PraisedFields$Hail", .instantiable "PraisedFields$Hail" 4, .methodLinkNest "PraisedFields" 43 yX1_init "PraisedFields", .instanceMethod yX1_init, .code yX1_init prog_3_method_1_code 1 none, .methodLink "PraisedFields$Hail" 3 ⟨"java/lang/Object", "<init>", "()V"⟩, .fieldLink "PraisedFields$Hail" 11 "PraisedFields$Hail" "ears" "[I", .fieldLink "PraisedFields$Hail" 15 "PraisedFields$Hail" "blight" "[I", .fieldLink "PraisedFields$Hail" 18 "PraisedFields$Hail" "weight" "[J", .fieldLink "PraisedFields$Hail" 22 "PraisedFields$Hail" "ways" "I", .laysFinal "PraisedFields$Hail" "PraisedFields$Hail" "ears" "[I", .soleField "PraisedFields$Hail" "ears", .laysFinal "PraisedFields$Hail" "PraisedFields$Hail" "blight" "[I", .soleField "PraisedFields$Hail" "blight", .laysFinal "PraisedFields$Hail" "PraisedFields$Hail" "weight" "[J", .soleField "PraisedFields$Hail" "weight", .lays "PraisedFields$Hail" "PraisedFields$Hail" "ways" "I", .soleField "PraisedFields$Hail" "ways", .superclass "PraisedFields$Hail" "java/lang/Object", .arrayClass .long, .classLink "PraisedFields" 48 "PraisedFields$Guesses", .instantiable "PraisedFields$Guesses" 3, .methodLinkNest "PraisedFields" 50 yX0_init "PraisedFields", .instanceMethod yX0_init, .code yX0_init prog_2_method_1_code 1 none, .methodLink "PraisedFields$Guesses" 3 ⟨"java/lang/Object", "<init>", "()V"⟩, .fieldLink "PraisedFields$Guesses" 9 "PraisedFields$Guesses" "ears" "[I", .fieldLink "PraisedFields$Guesses" 15 "PraisedFields$Guesses" "blight" "[I", .fieldLink "PraisedFields$Guesses" 18 "PraisedFields$Guesses" "size" "I", .fieldLink "PraisedFields" 238 "PraisedFields$Guesses" "size" "I", .laysFinal "PraisedFields$Guesses" "PraisedFields$Guesses" "ears" "[I"] : List Cond) = ((tables_1_1).drop 160).take 32 := rfl
  rw [h1] at h
  have h4 := List.mem_of_mem_drop (List.mem_of_mem_take h)
  exact List.mem_filter.mpr ⟨List.mem_append_right _ (List.mem_append_left _ h4), h3⟩
theorem zg_1_6 : ∀ w ∈ ([.soleField "PraisedFields$Guesses" "ears", .laysFinal "PraisedFields$Guesses" "PraisedFields$Guesses" "blight" "[I", .soleField "PraisedFields$Guesses" "blight", .lays "PraisedFields$Guesses" "PraisedFields$Guesses" "size" "I", .soleField "PraisedFields$Guesses" "size", .superclass "PraisedFields$Guesses" "java/lang/Object", .classLink "PraisedFields" 55 "PraisedFields$Sheets", .instantiable "PraisedFields$Sheets" 3, .methodLinkNest "PraisedFields" 57 yX4_init "PraisedFields", .instanceMethod yX4_init, .code yX4_init prog_6_method_1_code 1 none, .methodLink "PraisedFields$Sheets" 3 ⟨"java/lang/Object", "<init>", "()V"⟩, .fieldLink "PraisedFields$Sheets" 9 "PraisedFields$Sheets" "cells" "[I", .fieldLink "PraisedFields$Sheets" 15 "PraisedFields$Sheets" "laneOf" "[I", .fieldLink "PraisedFields" 254 "PraisedFields$Sheets" "laneOf" "[I", .fieldLink "PraisedFields$Sheets" 18 "PraisedFields$Sheets" "size" "[I", .fieldLink "PraisedFields" 272 "PraisedFields$Sheets" "size" "[I", .laysFinal "PraisedFields$Sheets" "PraisedFields$Sheets" "cells" "[I", .soleField "PraisedFields$Sheets" "cells", .laysFinal "PraisedFields$Sheets" "PraisedFields$Sheets" "laneOf" "[I", .soleField "PraisedFields$Sheets" "laneOf", .laysFinal "PraisedFields$Sheets" "PraisedFields$Sheets" "size" "[I", .soleField "PraisedFields$Sheets" "size", .superclass "PraisedFields$Sheets" "java/lang/Object", .fieldLink "PraisedFields" 10 "PraisedFields" "land" "LPraisedFields$Land;", .fieldLink "PraisedFields" 16 "PraisedFields" "trial" "LPraisedFields$Land;", .fieldLink "PraisedFields" 19 "PraisedFields" "images" "[LPraisedFields$Land;", .fieldLink "PraisedFields" 23 "PraisedFields" "kept" "[Z", .fieldLink "PraisedFields" 30 "PraisedFields" "tape" "LPraisedFields$Tape;", .fieldLink "PraisedFields" 37 "PraisedFields" "orders" "LPraisedFields$Orders;", .fieldLink "PraisedFields" 44 "PraisedFields" "hail" "LPraisedFields$Hail;", .fieldLink "PraisedFields" 51 "PraisedFields" "guesses" "LPraisedFields$Guesses;"] : List Cond), zok w = true → w ∈ zW := fun w h h3 => by
  have h1 : ([.soleField "PraisedFields$Guesses" "ears", .laysFinal "PraisedFields$Guesses" "PraisedFields$Guesses" "blight" "[I", .soleField "PraisedFields$Guesses" "blight", .lays "PraisedFields$Guesses" "PraisedFields$Guesses" "size" "I", .soleField "PraisedFields$Guesses" "size", .superclass "PraisedFields$Guesses" "java/lang/Object", .classLink "PraisedFields" 55 "PraisedFields$Sheets", .instantiable "PraisedFields$Sheets" 3, .methodLinkNest "PraisedFields" 57 yX4_init "PraisedFields", .instanceMethod yX4_init, .code yX4_init prog_6_method_1_code 1 none, .methodLink "PraisedFields$Sheets" 3 ⟨"java/lang/Object", "<init>", "()V"⟩, .fieldLink "PraisedFields$Sheets" 9 "PraisedFields$Sheets" "cells" "[I", .fieldLink "PraisedFields$Sheets" 15 "PraisedFields$Sheets" "laneOf" "[I", .fieldLink "PraisedFields" 254 "PraisedFields$Sheets" "laneOf" "[I", .fieldLink "PraisedFields$Sheets" 18 "PraisedFields$Sheets" "size" "[I", .fieldLink "PraisedFields" 272 "PraisedFields$Sheets" "size" "[I", .laysFinal "PraisedFields$Sheets" "PraisedFields$Sheets" "cells" "[I", .soleField "PraisedFields$Sheets" "cells", .laysFinal "PraisedFields$Sheets" "PraisedFields$Sheets" "laneOf" "[I", .soleField "PraisedFields$Sheets" "laneOf", .laysFinal "PraisedFields$Sheets" "PraisedFields$Sheets" "size" "[I", .soleField "PraisedFields$Sheets" "size", .superclass "PraisedFields$Sheets" "java/lang/Object", .fieldLink "PraisedFields" 10 "PraisedFields" "land" "LPraisedFields$Land;", .fieldLink "PraisedFields" 16 "PraisedFields" "trial" "LPraisedFields$Land;", .fieldLink "PraisedFields" 19 "PraisedFields" "images" "[LPraisedFields$Land;", .fieldLink "PraisedFields" 23 "PraisedFields" "kept" "[Z", .fieldLink "PraisedFields" 30 "PraisedFields" "tape" "LPraisedFields$Tape;", .fieldLink "PraisedFields" 37 "PraisedFields" "orders" "LPraisedFields$Orders;", .fieldLink "PraisedFields" 44 "PraisedFields" "hail" "LPraisedFields$Hail;", .fieldLink "PraisedFields" 51 "PraisedFields" "guesses" "LPraisedFields$Guesses;"] : List Cond) = ((tables_1_1).drop 192).take 32 := rfl
  rw [h1] at h
  have h4 := List.mem_of_mem_drop (List.mem_of_mem_take h)
  exact List.mem_filter.mpr ⟨List.mem_append_right _ (List.mem_append_left _ h4), h3⟩
theorem zg_1_7 : ∀ w ∈ ([.fieldLink "PraisedFields" 58 "PraisedFields" "sheets" "LPraisedFields$Sheets;", .fieldLink "PraisedFields" 62 "PraisedFields" "tornFault" "I", .laysFinal "PraisedFields" "PraisedFields" "land" "LPraisedFields$Land;", .soleField "PraisedFields" "land", .laysFinal "PraisedFields" "PraisedFields" "trial" "LPraisedFields$Land;", .soleField "PraisedFields" "trial", .laysFinal "PraisedFields" "PraisedFields" "images" "[LPraisedFields$Land;", .soleField "PraisedFields" "images", .laysFinal "PraisedFields" "PraisedFields" "kept" "[Z", .soleField "PraisedFields" "kept", .laysFinal "PraisedFields" "PraisedFields" "tape" "LPraisedFields$Tape;", .soleField "PraisedFields" "tape", .laysFinal "PraisedFields" "PraisedFields" "orders" "LPraisedFields$Orders;", .soleField "PraisedFields" "orders", .laysFinal "PraisedFields" "PraisedFields" "hail" "LPraisedFields$Hail;", .soleField "PraisedFields" "hail"] : List Cond), zok w = true → w ∈ zW := fun w h h3 => by
  have h1 : ([.fieldLink "PraisedFields" 58 "PraisedFields" "sheets" "LPraisedFields$Sheets;", .fieldLink "PraisedFields" 62 "PraisedFields" "tornFault" "I", .laysFinal "PraisedFields" "PraisedFields" "land" "LPraisedFields$Land;", .soleField "PraisedFields" "land", .laysFinal "PraisedFields" "PraisedFields" "trial" "LPraisedFields$Land;", .soleField "PraisedFields" "trial", .laysFinal "PraisedFields" "PraisedFields" "images" "[LPraisedFields$Land;", .soleField "PraisedFields" "images", .laysFinal "PraisedFields" "PraisedFields" "kept" "[Z", .soleField "PraisedFields" "kept", .laysFinal "PraisedFields" "PraisedFields" "tape" "LPraisedFields$Tape;", .soleField "PraisedFields" "tape", .laysFinal "PraisedFields" "PraisedFields" "orders" "LPraisedFields$Orders;", .soleField "PraisedFields" "orders", .laysFinal "PraisedFields" "PraisedFields" "hail" "LPraisedFields$Hail;", .soleField "PraisedFields" "hail"] : List Cond) = ((tables_1_1).drop 224).take 32 := rfl
  rw [h1] at h
  have h4 := List.mem_of_mem_drop (List.mem_of_mem_take h)
  exact List.mem_filter.mpr ⟨List.mem_append_right _ (List.mem_append_left _ h4), h3⟩
theorem zg_2_0 : ∀ w ∈ ([.laysFinal "PraisedFields" "PraisedFields" "guesses" "LPraisedFields$Guesses;", .soleField "PraisedFields" "guesses", .laysFinal "PraisedFields" "PraisedFields" "sheets" "LPraisedFields$Sheets;", .soleField "PraisedFields" "sheets", .lays "PraisedFields" "PraisedFields" "tornFault" "I", .soleField "PraisedFields" "tornFault", .superclass "PraisedFields" "java/lang/Object", .methodLink "PraisedFieldsLaw" 13 yX6_feed, .instanceMethod yX6_feed, .selects "PraisedFields" yX6_feed yX6_feed, .code yX6_feed prog_1_method_2_code 2 (some .int), .methodLink "PraisedFields" 66 yX6_within, .static yX6_within, .code yX6_within prog_1_method_46_code 3 (some .boolean), .methodLink "PraisedFields" 70 yX5_append, .instanceMethod yX5_append, .selects "PraisedFields$Tape" yX5_append yX5_append, .code yX5_append prog_7_method_2_code 2 (some .boolean), .methodLink "PraisedFieldsLaw" 18 yX6_end, .instanceMethod yX6_end, .selects "PraisedFields" yX6_end yX6_end, .code yX6_end prog_1_method_3_code 3 (some .int), .methodLink "PraisedFieldsLaw" 22 yX6_text, .instanceMethod yX6_text, .selects "PraisedFields" yX6_text yX6_text, .code yX6_text prog_1_method_4_code 3 (some .int), .methodLink "PraisedFields" 77 yX5_tellAll, .instanceMethod yX5_tellAll, .selects "PraisedFields$Tape" yX5_tellAll yX5_tellAll, .code yX5_tellAll prog_7_method_3_code 4 (some .int), .methodLink "PraisedFields$Tape" 41 yX2_clear, .instanceMethod yX2_clear] : List Cond), zok w = true → w ∈ zW := fun w h h3 => by
  have h1 : ([.laysFinal "PraisedFields" "PraisedFields" "guesses" "LPraisedFields$Guesses;", .soleField "PraisedFields" "guesses", .laysFinal "PraisedFields" "PraisedFields" "sheets" "LPraisedFields$Sheets;", .soleField "PraisedFields" "sheets", .lays "PraisedFields" "PraisedFields" "tornFault" "I", .soleField "PraisedFields" "tornFault", .superclass "PraisedFields" "java/lang/Object", .methodLink "PraisedFieldsLaw" 13 yX6_feed, .instanceMethod yX6_feed, .selects "PraisedFields" yX6_feed yX6_feed, .code yX6_feed prog_1_method_2_code 2 (some .int), .methodLink "PraisedFields" 66 yX6_within, .static yX6_within, .code yX6_within prog_1_method_46_code 3 (some .boolean), .methodLink "PraisedFields" 70 yX5_append, .instanceMethod yX5_append, .selects "PraisedFields$Tape" yX5_append yX5_append, .code yX5_append prog_7_method_2_code 2 (some .boolean), .methodLink "PraisedFieldsLaw" 18 yX6_end, .instanceMethod yX6_end, .selects "PraisedFields" yX6_end yX6_end, .code yX6_end prog_1_method_3_code 3 (some .int), .methodLink "PraisedFieldsLaw" 22 yX6_text, .instanceMethod yX6_text, .selects "PraisedFields" yX6_text yX6_text, .code yX6_text prog_1_method_4_code 3 (some .int), .methodLink "PraisedFields" 77 yX5_tellAll, .instanceMethod yX5_tellAll, .selects "PraisedFields$Tape" yX5_tellAll yX5_tellAll, .code yX5_tellAll prog_7_method_3_code 4 (some .int), .methodLink "PraisedFields$Tape" 41 yX2_clear, .instanceMethod yX2_clear] : List Cond) = ((tables_1_2).drop 0).take 32 := rfl
  rw [h1] at h
  have h4 := List.mem_of_mem_drop (List.mem_of_mem_take h)
  exact List.mem_filter.mpr ⟨List.mem_append_right _ (List.mem_append_right _ (List.mem_append_left _ h4)), h3⟩
theorem zg_2_1 : ∀ w ∈ ([.selects "PraisedFields$Land" yX2_clear yX2_clear, .code yX2_clear prog_4_method_2_code 1 none, .methodLink "PraisedFields$Tape" 46 yX5_nextToken, .privateMethod yX5_nextToken, .instanceMethod yX5_nextToken, .code yX5_nextToken prog_7_method_12_code 3 none, .methodLink "PraisedFields$Tape" 105 yX5_stretch, .privateMethod yX5_stretch, .instanceMethod yX5_stretch, .code yX5_stretch prog_7_method_13_code 4 (some .int), .methodLink "PraisedFields$Tape" 109 yX5_readNumber, .privateMethod yX5_readNumber, .instanceMethod yX5_readNumber, .code yX5_readNumber prog_7_method_14_code 3 none, .methodLink "PraisedFields$Tape" 113 yJ9_max_7cf53, .static yJ9_max_7cf53, .code yJ9_max_7cf53 prog_10_method_65_code 2 (some .int), .methodLink "PraisedFields$Tape" 49 yX5_takeLine, .privateMethod yX5_takeLine, .instanceMethod yX5_takeLine, .code yX5_takeLine prog_7_method_5_code 3 (some .boolean), .methodLink "PraisedFields$Tape" 67 yX5_isToken, .privateMethod yX5_isToken, .instanceMethod yX5_isToken, .code yX5_isToken prog_7_method_11_code 2 (some .boolean), .methodLink "PraisedFields$Tape" 63 yX5_refuse, .privateMethod yX5_refuse, .instanceMethod yX5_refuse, .code yX5_refuse prog_7_method_4_code 3 (some .boolean), .methodLink "PraisedFields$Tape" 71 yX5_lineBegun, .privateMethod yX5_lineBegun, .instanceMethod yX5_lineBegun] : List Cond), zok w = true → w ∈ zW := fun w h h3 => by
  have h1 : ([.selects "PraisedFields$Land" yX2_clear yX2_clear, .code yX2_clear prog_4_method_2_code 1 none, .methodLink "PraisedFields$Tape" 46 yX5_nextToken, .privateMethod yX5_nextToken, .instanceMethod yX5_nextToken, .code yX5_nextToken prog_7_method_12_code 3 none, .methodLink "PraisedFields$Tape" 105 yX5_stretch, .privateMethod yX5_stretch, .instanceMethod yX5_stretch, .code yX5_stretch prog_7_method_13_code 4 (some .int), .methodLink "PraisedFields$Tape" 109 yX5_readNumber, .privateMethod yX5_readNumber, .instanceMethod yX5_readNumber, .code yX5_readNumber prog_7_method_14_code 3 none, .methodLink "PraisedFields$Tape" 113 yJ9_max_7cf53, .static yJ9_max_7cf53, .code yJ9_max_7cf53 prog_10_method_65_code 2 (some .int), .methodLink "PraisedFields$Tape" 49 yX5_takeLine, .privateMethod yX5_takeLine, .instanceMethod yX5_takeLine, .code yX5_takeLine prog_7_method_5_code 3 (some .boolean), .methodLink "PraisedFields$Tape" 67 yX5_isToken, .privateMethod yX5_isToken, .instanceMethod yX5_isToken, .code yX5_isToken prog_7_method_11_code 2 (some .boolean), .methodLink "PraisedFields$Tape" 63 yX5_refuse, .privateMethod yX5_refuse, .instanceMethod yX5_refuse, .code yX5_refuse prog_7_method_4_code 3 (some .boolean), .methodLink "PraisedFields$Tape" 71 yX5_lineBegun, .privateMethod yX5_lineBegun, .instanceMethod yX5_lineBegun] : List Cond) = ((tables_1_2).drop 32).take 32 := rfl
  rw [h1] at h
  have h4 := List.mem_of_mem_drop (List.mem_of_mem_take h)
  exact List.mem_filter.mpr ⟨List.mem_append_right _ (List.mem_append_right _ (List.mem_append_left _ h4)), h3⟩
theorem zg_2_2 : ∀ w ∈ ([.code yX5_lineBegun prog_7_method_15_code 1 (some .int), .stringRef "PraisedFields$Tape" 118 "plain", .methodLink "PraisedFields$Tape" 120 yX5_isNamed, .privateMethod yX5_isNamed, .instanceMethod yX5_isNamed, .code yX5_isNamed prog_7_method_16_code 3 (some .boolean), .methodLink "PraisedFields$Tape" 134 yJ0_length_8abf5, .instanceMethod yJ0_length_8abf5, .selects "java/lang/String" yJ0_length_8abf5 yJ0_length_8abf5, .code yJ0_length_8abf5 prog_11_method_54_code 1 (some .int), .methodLink "java/lang/String" 335 yJ0_coder_7d493, .instanceMethod yJ0_coder_7d493, .selects "java/lang/String" yJ0_coder_7d493 yJ0_coder_7d493, .code yJ0_coder_7d493 prog_11_method_152_code 1 (some .byte), .fieldLink "java/lang/String" 38 "java/lang/String" "COMPACT_STRINGS" "Z", .laysStatic "java/lang/String" "COMPACT_STRINGS" "Z", .methodLink "PraisedFields$Tape" 138 yJ0_charAt_5068e, .instanceMethod yJ0_charAt_5068e, .selects "java/lang/String" yJ0_charAt_5068e yJ0_charAt_5068e, .code yJ0_charAt_5068e prog_11_method_56_code 2 (some .char), .methodLink "java/lang/String" 492 yJ0_isLatin1_aae02, .instanceMethod yJ0_isLatin1_aae02, .selects "java/lang/String" yJ0_isLatin1_aae02 yJ0_isLatin1_aae02, .code yJ0_isLatin1_aae02 prog_11_method_154_code 1 (some .boolean), .methodLink "java/lang/String" 495 yJ1_charAt_3b067, .static yJ1_charAt_3b067, .code yJ1_charAt_3b067 prog_12_method_2_code 2 (some .char), .methodLink "java/lang/StringLatin1" 9 yJ0_checkIndex_df160, .static yJ0_checkIndex_df160, .code yJ0_checkIndex_df160 prog_11_method_155_code 2 none, .fieldLink "java/lang/String" 1053 "jdk/internal/util/Preconditions" "SIOOBE_FORMATTER" "Ljava/util/function/BiFunction;", .laysStatic "jdk/internal/util/Preconditions" "SIOOBE_FORMATTER" "Ljava/util/function/BiFunction;"] : List Cond), zok w = true → w ∈ zW := fun w h h3 => by
  have h1 : ([.code yX5_lineBegun prog_7_method_15_code 1 (some .int), .stringRef "PraisedFields$Tape" 118 "plain", .methodLink "PraisedFields$Tape" 120 yX5_isNamed, .privateMethod yX5_isNamed, .instanceMethod yX5_isNamed, .code yX5_isNamed prog_7_method_16_code 3 (some .boolean), .methodLink "PraisedFields$Tape" 134 yJ0_length_8abf5, .instanceMethod yJ0_length_8abf5, .selects "java/lang/String" yJ0_length_8abf5 yJ0_length_8abf5, .code yJ0_length_8abf5 prog_11_method_54_code 1 (some .int), .methodLink "java/lang/String" 335 yJ0_coder_7d493, .instanceMethod yJ0_coder_7d493, .selects "java/lang/String" yJ0_coder_7d493 yJ0_coder_7d493, .code yJ0_coder_7d493 prog_11_method_152_code 1 (some .byte), .fieldLink "java/lang/String" 38 "java/lang/String" "COMPACT_STRINGS" "Z", .laysStatic "java/lang/String" "COMPACT_STRINGS" "Z", .methodLink "PraisedFields$Tape" 138 yJ0_charAt_5068e, .instanceMethod yJ0_charAt_5068e, .selects "java/lang/String" yJ0_charAt_5068e yJ0_charAt_5068e, .code yJ0_charAt_5068e prog_11_method_56_code 2 (some .char), .methodLink "java/lang/String" 492 yJ0_isLatin1_aae02, .instanceMethod yJ0_isLatin1_aae02, .selects "java/lang/String" yJ0_isLatin1_aae02 yJ0_isLatin1_aae02, .code yJ0_isLatin1_aae02 prog_11_method_154_code 1 (some .boolean), .methodLink "java/lang/String" 495 yJ1_charAt_3b067, .static yJ1_charAt_3b067, .code yJ1_charAt_3b067 prog_12_method_2_code 2 (some .char), .methodLink "java/lang/StringLatin1" 9 yJ0_checkIndex_df160, .static yJ0_checkIndex_df160, .code yJ0_checkIndex_df160 prog_11_method_155_code 2 none, .fieldLink "java/lang/String" 1053 "jdk/internal/util/Preconditions" "SIOOBE_FORMATTER" "Ljava/util/function/BiFunction;", .laysStatic "jdk/internal/util/Preconditions" "SIOOBE_FORMATTER" "Ljava/util/function/BiFunction;"] : List Cond) = ((tables_1_2).drop 64).take 32 := rfl
  rw [h1] at h
  have h4 := List.mem_of_mem_drop (List.mem_of_mem_take h)
  exact List.mem_filter.mpr ⟨List.mem_append_right _ (List.mem_append_right _ (List.mem_append_left _ h4)), h3⟩
theorem zg_2_3 : ∀ w ∈ ([.methodLink "java/lang/String" 1059 yJ3_checkIndex_8e157, .static yJ3_checkIndex_8e157, .code yJ3_checkIndex_8e157 prog_15_method_11_code 3 (some .int), .methodLink "java/lang/String" 498 yJ2_charAt_3b067, .static yJ2_charAt_3b067, .code yJ2_charAt_3b067 prog_13_method_83_code 2 (some .char), .methodLink "java/lang/StringUTF16" 67 yJ2_checkIndex_2214a, .static yJ2_checkIndex_2214a, .code yJ2_checkIndex_2214a prog_13_method_91_code 2 none, .methodLink "java/lang/StringUTF16" 48 yJ2_length_9d52b, .static yJ2_length_9d52b, .code yJ2_length_9d52b prog_13_method_6_code 1 (some .int), .methodLink "java/lang/StringUTF16" 414 yJ0_checkIndex_df160, .methodLink "java/lang/StringUTF16" 71 yJ2_getChar_3b067, .static yJ2_getChar_3b067, .code yJ2_getChar_3b067 prog_13_method_5_code 2 (some .char), .fieldLink "java/lang/StringUTF16" 44 "java/lang/StringUTF16" "$assertionsDisabled" "Z", .laysStatic "java/lang/StringUTF16" "$assertionsDisabled" "Z", .fieldLink "java/lang/StringUTF16" 59 "java/lang/StringUTF16" "HI_BYTE_SHIFT" "I", .laysStatic "java/lang/StringUTF16" "HI_BYTE_SHIFT" "I", .fieldLink "java/lang/StringUTF16" 63 "java/lang/StringUTF16" "LO_BYTE_SHIFT" "I", .laysStatic "java/lang/StringUTF16" "LO_BYTE_SHIFT" "I", .stringRef "PraisedFields$Tape" 124 "vain", .stringRef "PraisedFields$Tape" 126 "shy", .stringRef "PraisedFields$Tape" 128 "deaf", .stringRef "PraisedFields$Tape" 130 "band", .stringRef "PraisedFields$Tape" 132 "glut", .methodLink "PraisedFields$Tape" 75 yX5_takeGlut, .privateMethod yX5_takeGlut, .instanceMethod yX5_takeGlut, .code yX5_takeGlut prog_7_method_8_code 2 (some .boolean), .methodLink "PraisedFields$Tape" 85 yX5_takeNumber] : List Cond), zok w = true → w ∈ zW := fun w h h3 => by
  have h1 : ([.methodLink "java/lang/String" 1059 yJ3_checkIndex_8e157, .static yJ3_checkIndex_8e157, .code yJ3_checkIndex_8e157 prog_15_method_11_code 3 (some .int), .methodLink "java/lang/String" 498 yJ2_charAt_3b067, .static yJ2_charAt_3b067, .code yJ2_charAt_3b067 prog_13_method_83_code 2 (some .char), .methodLink "java/lang/StringUTF16" 67 yJ2_checkIndex_2214a, .static yJ2_checkIndex_2214a, .code yJ2_checkIndex_2214a prog_13_method_91_code 2 none, .methodLink "java/lang/StringUTF16" 48 yJ2_length_9d52b, .static yJ2_length_9d52b, .code yJ2_length_9d52b prog_13_method_6_code 1 (some .int), .methodLink "java/lang/StringUTF16" 414 yJ0_checkIndex_df160, .methodLink "java/lang/StringUTF16" 71 yJ2_getChar_3b067, .static yJ2_getChar_3b067, .code yJ2_getChar_3b067 prog_13_method_5_code 2 (some .char), .fieldLink "java/lang/StringUTF16" 44 "java/lang/StringUTF16" "$assertionsDisabled" "Z", .laysStatic "java/lang/StringUTF16" "$assertionsDisabled" "Z", .fieldLink "java/lang/StringUTF16" 59 "java/lang/StringUTF16" "HI_BYTE_SHIFT" "I", .laysStatic "java/lang/StringUTF16" "HI_BYTE_SHIFT" "I", .fieldLink "java/lang/StringUTF16" 63 "java/lang/StringUTF16" "LO_BYTE_SHIFT" "I", .laysStatic "java/lang/StringUTF16" "LO_BYTE_SHIFT" "I", .stringRef "PraisedFields$Tape" 124 "vain", .stringRef "PraisedFields$Tape" 126 "shy", .stringRef "PraisedFields$Tape" 128 "deaf", .stringRef "PraisedFields$Tape" 130 "band", .stringRef "PraisedFields$Tape" 132 "glut", .methodLink "PraisedFields$Tape" 75 yX5_takeGlut, .privateMethod yX5_takeGlut, .instanceMethod yX5_takeGlut, .code yX5_takeGlut prog_7_method_8_code 2 (some .boolean), .methodLink "PraisedFields$Tape" 85 yX5_takeNumber] : List Cond) = ((tables_1_2).drop 96).take 32 := rfl
  rw [h1] at h
  have h4 := List.mem_of_mem_drop (List.mem_of_mem_take h)
  exact List.mem_filter.mpr ⟨List.mem_append_right _ (List.mem_append_right _ (List.mem_append_left _ h4)), h3⟩
theorem zg_2_4 : ∀ w ∈ ([.privateMethod yX5_takeNumber, .instanceMethod yX5_takeNumber, .code yX5_takeNumber prog_7_method_9_code 3 (some .boolean), .methodLinkNest "PraisedFields$Tape" 102 yX6_within "PraisedFields", .methodLink "PraisedFields$Tape" 88 yX5_takeSemicolon, .privateMethod yX5_takeSemicolon, .instanceMethod yX5_takeSemicolon, .code yX5_takeSemicolon prog_7_method_10_code 1 (some .boolean), .methodLink "PraisedFields$Tape" 78 yX5_takeBand, .privateMethod yX5_takeBand, .instanceMethod yX5_takeBand, .code yX5_takeBand prog_7_method_7_code 3 (some .boolean), .methodLink "PraisedFields$Tape" 96 yX2_addBand, .instanceMethod yX2_addBand, .selects "PraisedFields$Land" yX2_addBand yX2_addBand, .code yX2_addBand prog_4_method_5_code 3 (some .boolean), .methodLink "PraisedFields$Tape" 81 yX5_takeField, .privateMethod yX5_takeField, .instanceMethod yX5_takeField, .code yX5_takeField prog_7_method_6_code 4 (some .boolean), .methodLink "PraisedFields$Tape" 92 yX2_addField, .instanceMethod yX2_addField, .selects "PraisedFields$Land" yX2_addField yX2_addField, .code yX2_addField prog_4_method_4_code 4 (some .boolean), .methodLink "PraisedFields" 84 yX2_copyFrom, .instanceMethod yX2_copyFrom, .selects "PraisedFields$Land" yX2_copyFrom yX2_copyFrom, .code yX2_copyFrom prog_4_method_3_code 2 none, .methodLink "PraisedFields$Land" 55 ⟨"java/lang/System", "arraycopy", "(Ljava/lang/Object;ILjava/lang/Object;II)V"⟩, .static ⟨"java/lang/System", "arraycopy", "(Ljava/lang/Object;ILjava/lang/Object;II)V"⟩, .native ⟨"java/lang/System", "arraycopy", "(Ljava/lang/Object;ILjava/lang/Object;II)V"⟩, .methodLink "PraisedFieldsLaw" 27 yX6_fault] : List Cond), zok w = true → w ∈ zW := fun w h h3 => by
  have h1 : ([.privateMethod yX5_takeNumber, .instanceMethod yX5_takeNumber, .code yX5_takeNumber prog_7_method_9_code 3 (some .boolean), .methodLinkNest "PraisedFields$Tape" 102 yX6_within "PraisedFields", .methodLink "PraisedFields$Tape" 88 yX5_takeSemicolon, .privateMethod yX5_takeSemicolon, .instanceMethod yX5_takeSemicolon, .code yX5_takeSemicolon prog_7_method_10_code 1 (some .boolean), .methodLink "PraisedFields$Tape" 78 yX5_takeBand, .privateMethod yX5_takeBand, .instanceMethod yX5_takeBand, .code yX5_takeBand prog_7_method_7_code 3 (some .boolean), .methodLink "PraisedFields$Tape" 96 yX2_addBand, .instanceMethod yX2_addBand, .selects "PraisedFields$Land" yX2_addBand yX2_addBand, .code yX2_addBand prog_4_method_5_code 3 (some .boolean), .methodLink "PraisedFields$Tape" 81 yX5_takeField, .privateMethod yX5_takeField, .instanceMethod yX5_takeField, .code yX5_takeField prog_7_method_6_code 4 (some .boolean), .methodLink "PraisedFields$Tape" 92 yX2_addField, .instanceMethod yX2_addField, .selects "PraisedFields$Land" yX2_addField yX2_addField, .code yX2_addField prog_4_method_4_code 4 (some .boolean), .methodLink "PraisedFields" 84 yX2_copyFrom, .instanceMethod yX2_copyFrom, .selects "PraisedFields$Land" yX2_copyFrom yX2_copyFrom, .code yX2_copyFrom prog_4_method_3_code 2 none, .methodLink "PraisedFields$Land" 55 ⟨"java/lang/System", "arraycopy", "(Ljava/lang/Object;ILjava/lang/Object;II)V"⟩, .static ⟨"java/lang/System", "arraycopy", "(Ljava/lang/Object;ILjava/lang/Object;II)V"⟩, .native ⟨"java/lang/System", "arraycopy", "(Ljava/lang/Object;ILjava/lang/Object;II)V"⟩, .methodLink "PraisedFieldsLaw" 27 yX6_fault] : List Cond) = ((tables_1_2).drop 128).take 32 := rfl
  rw [h1] at h
  have h4 := List.mem_of_mem_drop (List.mem_of_mem_take h)
  exact List.mem_filter.mpr ⟨List.mem_append_right _ (List.mem_append_right _ (List.mem_append_left _ h4)), h3⟩
theorem zg_2_5 : ∀ w ∈ ([.instanceMethod yX6_fault, .selects "PraisedFields" yX6_fault yX6_fault, .code yX6_fault prog_1_method_5_code 1 (some .int), .methodLink "PraisedFieldsLaw" 31 yX6_rule, .instanceMethod yX6_rule, .selects "PraisedFields" yX6_rule yX6_rule, .code yX6_rule prog_1_method_6_code 2 (some .int), .methodLink "PraisedFields" 103 yX2_allEars, .instanceMethod yX2_allEars, .selects "PraisedFields$Land" yX2_allEars yX2_allEars, .code yX2_allEars prog_4_method_10_code 1 (some .int), .methodLink "PraisedFields$Land" 61 yX2_sumOf, .static yX2_sumOf, .code yX2_sumOf prog_4_method_13_code 4 (some .int), .methodLink "PraisedFields" 110 yX2_hearingFields, .instanceMethod yX2_hearingFields, .selects "PraisedFields$Land" yX2_hearingFields yX2_hearingFields, .code yX2_hearingFields prog_4_method_8_code 3 (some .int), .methodLink "PraisedFieldsLaw" 35 yX6_field, .instanceMethod yX6_field, .selects "PraisedFields" yX6_field yX6_field, .code yX6_field prog_1_method_7_code 4 (some .int), .methodLink "PraisedFields" 113 yX6_isField, .privateMethod yX6_isField, .instanceMethod yX6_isField, .code yX6_isField prog_1_method_47_code 2 (some .boolean), .methodLink "PraisedFields" 116 yX2_heardAt, .instanceMethod yX2_heardAt, .selects "PraisedFields$Land" yX2_heardAt yX2_heardAt, .code yX2_heardAt prog_4_method_7_code 4 (some .int), .methodLink "PraisedFields" 130 yX6_growth, .static yX6_growth] : List Cond), zok w = true → w ∈ zW := fun w h h3 => by
  have h1 : ([.instanceMethod yX6_fault, .selects "PraisedFields" yX6_fault yX6_fault, .code yX6_fault prog_1_method_5_code 1 (some .int), .methodLink "PraisedFieldsLaw" 31 yX6_rule, .instanceMethod yX6_rule, .selects "PraisedFields" yX6_rule yX6_rule, .code yX6_rule prog_1_method_6_code 2 (some .int), .methodLink "PraisedFields" 103 yX2_allEars, .instanceMethod yX2_allEars, .selects "PraisedFields$Land" yX2_allEars yX2_allEars, .code yX2_allEars prog_4_method_10_code 1 (some .int), .methodLink "PraisedFields$Land" 61 yX2_sumOf, .static yX2_sumOf, .code yX2_sumOf prog_4_method_13_code 4 (some .int), .methodLink "PraisedFields" 110 yX2_hearingFields, .instanceMethod yX2_hearingFields, .selects "PraisedFields$Land" yX2_hearingFields yX2_hearingFields, .code yX2_hearingFields prog_4_method_8_code 3 (some .int), .methodLink "PraisedFieldsLaw" 35 yX6_field, .instanceMethod yX6_field, .selects "PraisedFields" yX6_field yX6_field, .code yX6_field prog_1_method_7_code 4 (some .int), .methodLink "PraisedFields" 113 yX6_isField, .privateMethod yX6_isField, .instanceMethod yX6_isField, .code yX6_isField prog_1_method_47_code 2 (some .boolean), .methodLink "PraisedFields" 116 yX2_heardAt, .instanceMethod yX2_heardAt, .selects "PraisedFields$Land" yX2_heardAt yX2_heardAt, .code yX2_heardAt prog_4_method_7_code 4 (some .int), .methodLink "PraisedFields" 130 yX6_growth, .static yX6_growth] : List Cond) = ((tables_1_2).drop 160).take 32 := rfl
  rw [h1] at h
  have h4 := List.mem_of_mem_drop (List.mem_of_mem_take h)
  exact List.mem_filter.mpr ⟨List.mem_append_right _ (List.mem_append_right _ (List.mem_append_left _ h4)), h3⟩
theorem zg_2_6 : ∀ w ∈ ([.code yX6_growth prog_1_method_49_code 2 (some .int), .methodLink "PraisedFields" 134 yX6_heed, .static yX6_heed, .code yX6_heed prog_1_method_50_code 1 (some .int), .methodLink "PraisedFieldsLaw" 40 yX6_band, .instanceMethod yX6_band, .selects "PraisedFields" yX6_band yX6_band, .code yX6_band prog_1_method_8_code 3 (some .int), .methodLink "PraisedFields" 137 yX6_isBand, .privateMethod yX6_isBand, .instanceMethod yX6_isBand, .code yX6_isBand prog_1_method_48_code 2 (some .boolean), .methodLink "PraisedFieldsLaw" 44 yX6_alter, .instanceMethod yX6_alter, .selects "PraisedFields" yX6_alter yX6_alter, .code yX6_alter prog_1_method_9_code 4 (some .int), .methodLink "PraisedFields" 146 yX6_replace, .static yX6_replace, .code yX6_replace prog_1_method_10_code 5 (some .int), .methodLink "PraisedFieldsLaw" 49 yX6_march, .instanceMethod yX6_march, .selects "PraisedFields" yX6_march yX6_march, .code yX6_march prog_1_method_11_code 4 (some .int), .methodLink "PraisedFieldsLaw" 53 yX6_play, .instanceMethod yX6_play, .selects "PraisedFields" yX6_play yX6_play, .code yX6_play prog_1_method_12_code 4 (some .int), .methodLink "PraisedFieldsLaw" 57 yX6_glut, .instanceMethod yX6_glut, .selects "PraisedFields" yX6_glut yX6_glut, .code yX6_glut prog_1_method_13_code 3 (some .int), .methodLink "PraisedFieldsLaw" 61 yX6_hire] : List Cond), zok w = true → w ∈ zW := fun w h h3 => by
  have h1 : ([.code yX6_growth prog_1_method_49_code 2 (some .int), .methodLink "PraisedFields" 134 yX6_heed, .static yX6_heed, .code yX6_heed prog_1_method_50_code 1 (some .int), .methodLink "PraisedFieldsLaw" 40 yX6_band, .instanceMethod yX6_band, .selects "PraisedFields" yX6_band yX6_band, .code yX6_band prog_1_method_8_code 3 (some .int), .methodLink "PraisedFields" 137 yX6_isBand, .privateMethod yX6_isBand, .instanceMethod yX6_isBand, .code yX6_isBand prog_1_method_48_code 2 (some .boolean), .methodLink "PraisedFieldsLaw" 44 yX6_alter, .instanceMethod yX6_alter, .selects "PraisedFields" yX6_alter yX6_alter, .code yX6_alter prog_1_method_9_code 4 (some .int), .methodLink "PraisedFields" 146 yX6_replace, .static yX6_replace, .code yX6_replace prog_1_method_10_code 5 (some .int), .methodLink "PraisedFieldsLaw" 49 yX6_march, .instanceMethod yX6_march, .selects "PraisedFields" yX6_march yX6_march, .code yX6_march prog_1_method_11_code 4 (some .int), .methodLink "PraisedFieldsLaw" 53 yX6_play, .instanceMethod yX6_play, .selects "PraisedFields" yX6_play yX6_play, .code yX6_play prog_1_method_12_code 4 (some .int), .methodLink "PraisedFieldsLaw" 57 yX6_glut, .instanceMethod yX6_glut, .selects "PraisedFields" yX6_glut yX6_glut, .code yX6_glut prog_1_method_13_code 3 (some .int), .methodLink "PraisedFieldsLaw" 61 yX6_hire] : List Cond) = ((tables_1_2).drop 192).take 32 := rfl
  rw [h1] at h
  have h4 := List.mem_of_mem_drop (List.mem_of_mem_take h)
  exact List.mem_filter.mpr ⟨List.mem_append_right _ (List.mem_append_right _ (List.mem_append_left _ h4)), h3⟩
theorem zg_2_7 : ∀ w ∈ ([.instanceMethod yX6_hire, .selects "PraisedFields" yX6_hire yX6_hire, .code yX6_hire prog_1_method_14_code 3 (some .int), .methodLink "PraisedFields" 150 yX2_addBand, .methodLink "PraisedFieldsLaw" 65 yX6_leave, .instanceMethod yX6_leave, .selects "PraisedFields" yX6_leave yX6_leave, .code yX6_leave prog_1_method_15_code 3 (some .int), .methodLink "PraisedFieldsLaw" 69 yX6_weeks, .instanceMethod yX6_weeks, .selects "PraisedFields" yX6_weeks yX6_weeks, .code yX6_weeks prog_1_method_16_code 2 (some .int), .methodLink "PraisedFields" 154 yX2_passWeeks, .instanceMethod yX2_passWeeks, .selects "PraisedFields$Land" yX2_passWeeks yX2_passWeeks, .code yX2_passWeeks prog_4_method_15_code 4 (some .int)] : List Cond), zok w = true → w ∈ zW := fun w h h3 => by
  have h1 : ([.instanceMethod yX6_hire, .selects "PraisedFields" yX6_hire yX6_hire, .code yX6_hire prog_1_method_14_code 3 (some .int), .methodLink "PraisedFields" 150 yX2_addBand, .methodLink "PraisedFieldsLaw" 65 yX6_leave, .instanceMethod yX6_leave, .selects "PraisedFields" yX6_leave yX6_leave, .code yX6_leave prog_1_method_15_code 3 (some .int), .methodLink "PraisedFieldsLaw" 69 yX6_weeks, .instanceMethod yX6_weeks, .selects "PraisedFields" yX6_weeks yX6_weeks, .code yX6_weeks prog_1_method_16_code 2 (some .int), .methodLink "PraisedFields" 154 yX2_passWeeks, .instanceMethod yX2_passWeeks, .selects "PraisedFields$Land" yX2_passWeeks yX2_passWeeks, .code yX2_passWeeks prog_4_method_15_code 4 (some .int)] : List Cond) = ((tables_1_2).drop 224).take 32 := rfl
  rw [h1] at h
  have h4 := List.mem_of_mem_drop (List.mem_of_mem_take h)
  exact List.mem_filter.mpr ⟨List.mem_append_right _ (List.mem_append_right _ (List.mem_append_left _ h4)), h3⟩
theorem zg_3_0 : ∀ w ∈ ([.methodLink "PraisedFields$Land" 86 yX2_passWeek, .instanceMethod yX2_passWeek, .selects "PraisedFields$Land" yX2_passWeek yX2_passWeek, .code yX2_passWeek prog_4_method_14_code 4 (some .int), .methodLink "PraisedFields$Land" 65 yX2_heardAt, .methodLinkNest "PraisedFields$Land" 69 yX6_earsNext "PraisedFields", .static yX6_earsNext, .code yX6_earsNext prog_1_method_51_code 4 (some .int), .methodLink "PraisedFields" 277 yJ9_min_7cf53, .static yJ9_min_7cf53, .code yJ9_min_7cf53 prog_10_method_69_code 2 (some .int), .methodLink "PraisedFields" 282 yJ9_max_7cf53, .methodLinkNest "PraisedFields$Land" 73 yX6_blightNext "PraisedFields", .static yX6_blightNext, .code yX6_blightNext prog_1_method_52_code 3 (some .int), .methodLink "PraisedFields$Land" 77 yJ9_min_7cf53, .methodLink "PraisedFields$Land" 83 yJ9_max_7cf53, .methodLink "PraisedFieldsLaw" 73 yX6_runs, .instanceMethod yX6_runs, .selects "PraisedFields" yX6_runs yX6_runs, .code yX6_runs prog_1_method_17_code 4 (some .int), .methodLink "PraisedFields" 157 yX2_allBlight, .instanceMethod yX2_allBlight, .selects "PraisedFields$Land" yX2_allBlight yX2_allBlight, .code yX2_allBlight prog_4_method_11_code 1 (some .int), .methodLink "PraisedFields" 160 yX2_earlessFields, .instanceMethod yX2_earlessFields, .selects "PraisedFields$Land" yX2_earlessFields yX2_earlessFields, .code yX2_earlessFields prog_4_method_9_code 3 (some .int), .methodLink "PraisedFieldsLaw" 77 yX6_ahead, .instanceMethod yX6_ahead, .selects "PraisedFields" yX6_ahead yX6_ahead] : List Cond), zok w = true → w ∈ zW := fun w h h3 => by
  have h1 : ([.methodLink "PraisedFields$Land" 86 yX2_passWeek, .instanceMethod yX2_passWeek, .selects "PraisedFields$Land" yX2_passWeek yX2_passWeek, .code yX2_passWeek prog_4_method_14_code 4 (some .int), .methodLink "PraisedFields$Land" 65 yX2_heardAt, .methodLinkNest "PraisedFields$Land" 69 yX6_earsNext "PraisedFields", .static yX6_earsNext, .code yX6_earsNext prog_1_method_51_code 4 (some .int), .methodLink "PraisedFields" 277 yJ9_min_7cf53, .static yJ9_min_7cf53, .code yJ9_min_7cf53 prog_10_method_69_code 2 (some .int), .methodLink "PraisedFields" 282 yJ9_max_7cf53, .methodLinkNest "PraisedFields$Land" 73 yX6_blightNext "PraisedFields", .static yX6_blightNext, .code yX6_blightNext prog_1_method_52_code 3 (some .int), .methodLink "PraisedFields$Land" 77 yJ9_min_7cf53, .methodLink "PraisedFields$Land" 83 yJ9_max_7cf53, .methodLink "PraisedFieldsLaw" 73 yX6_runs, .instanceMethod yX6_runs, .selects "PraisedFields" yX6_runs yX6_runs, .code yX6_runs prog_1_method_17_code 4 (some .int), .methodLink "PraisedFields" 157 yX2_allBlight, .instanceMethod yX2_allBlight, .selects "PraisedFields$Land" yX2_allBlight yX2_allBlight, .code yX2_allBlight prog_4_method_11_code 1 (some .int), .methodLink "PraisedFields" 160 yX2_earlessFields, .instanceMethod yX2_earlessFields, .selects "PraisedFields$Land" yX2_earlessFields yX2_earlessFields, .code yX2_earlessFields prog_4_method_9_code 3 (some .int), .methodLink "PraisedFieldsLaw" 77 yX6_ahead, .instanceMethod yX6_ahead, .selects "PraisedFields" yX6_ahead yX6_ahead] : List Cond) = ((tables_1_3).drop 0).take 32 := rfl
  rw [h1] at h
  have h4 := List.mem_of_mem_drop (List.mem_of_mem_take h)
  exact List.mem_filter.mpr ⟨List.mem_append_right _ (List.mem_append_right _ (List.mem_append_right _ (List.mem_append_left _ h4))), h3⟩
theorem zg_3_1 : ∀ w ∈ ([.code yX6_ahead prog_1_method_18_code 4 (some .int), .methodLink "PraisedFields" 163 yX2_earsIf, .instanceMethod yX2_earsIf, .selects "PraisedFields$Land" yX2_earsIf yX2_earsIf, .code yX2_earsIf prog_4_method_16_code 4 (some .int), .methodLinkNest "PraisedFields$Land" 90 yX6_earsBehind "PraisedFields", .static yX6_earsBehind, .code yX6_earsBehind prog_1_method_53_code 8 (some .int), .methodLink "PraisedFields" 171 yX6_earsNext, .methodLink "PraisedFields" 174 yX6_blightNext, .methodLink "PraisedFields" 167 yX6_blightBehind, .static yX6_blightBehind, .code yX6_blightBehind prog_1_method_54_code 6 (some .int), .methodLink "PraisedFieldsLaw" 81 yX6_late, .instanceMethod yX6_late, .selects "PraisedFields" yX6_late yX6_late, .code yX6_late prog_1_method_19_code 8 (some .int), .methodLink "PraisedFieldsLaw" 85 yX6_order, .instanceMethod yX6_order, .selects "PraisedFields" yX6_order yX6_order, .code yX6_order prog_1_method_20_code 3 (some .int), .methodLink "PraisedFields" 177 yX3_findBest, .instanceMethod yX3_findBest, .selects "PraisedFields$Orders" yX3_findBest yX3_findBest, .code yX3_findBest prog_5_method_2_code 4 none, .methodLink "PraisedFields$Orders" 31 yX3_weigh, .privateMethod yX3_weigh, .instanceMethod yX3_weigh, .code yX3_weigh prog_5_method_3_code 5 none, .methodLink "PraisedFields$Orders" 58 yX2_earsIf, .methodLink "PraisedFields$Orders" 35 yX3_beginRows, .privateMethod yX3_beginRows] : List Cond), zok w = true → w ∈ zW := fun w h h3 => by
  have h1 : ([.code yX6_ahead prog_1_method_18_code 4 (some .int), .methodLink "PraisedFields" 163 yX2_earsIf, .instanceMethod yX2_earsIf, .selects "PraisedFields$Land" yX2_earsIf yX2_earsIf, .code yX2_earsIf prog_4_method_16_code 4 (some .int), .methodLinkNest "PraisedFields$Land" 90 yX6_earsBehind "PraisedFields", .static yX6_earsBehind, .code yX6_earsBehind prog_1_method_53_code 8 (some .int), .methodLink "PraisedFields" 171 yX6_earsNext, .methodLink "PraisedFields" 174 yX6_blightNext, .methodLink "PraisedFields" 167 yX6_blightBehind, .static yX6_blightBehind, .code yX6_blightBehind prog_1_method_54_code 6 (some .int), .methodLink "PraisedFieldsLaw" 81 yX6_late, .instanceMethod yX6_late, .selects "PraisedFields" yX6_late yX6_late, .code yX6_late prog_1_method_19_code 8 (some .int), .methodLink "PraisedFieldsLaw" 85 yX6_order, .instanceMethod yX6_order, .selects "PraisedFields" yX6_order yX6_order, .code yX6_order prog_1_method_20_code 3 (some .int), .methodLink "PraisedFields" 177 yX3_findBest, .instanceMethod yX3_findBest, .selects "PraisedFields$Orders" yX3_findBest yX3_findBest, .code yX3_findBest prog_5_method_2_code 4 none, .methodLink "PraisedFields$Orders" 31 yX3_weigh, .privateMethod yX3_weigh, .instanceMethod yX3_weigh, .code yX3_weigh prog_5_method_3_code 5 none, .methodLink "PraisedFields$Orders" 58 yX2_earsIf, .methodLink "PraisedFields$Orders" 35 yX3_beginRows, .privateMethod yX3_beginRows] : List Cond) = ((tables_1_3).drop 32).take 32 := rfl
  rw [h1] at h
  have h4 := List.mem_of_mem_drop (List.mem_of_mem_take h)
  exact List.mem_filter.mpr ⟨List.mem_append_right _ (List.mem_append_right _ (List.mem_append_right _ (List.mem_append_left _ h4))), h3⟩
theorem zg_3_2 : ∀ w ∈ ([.instanceMethod yX3_beginRows, .code yX3_beginRows prog_5_method_4_code 3 none, .methodLink "PraisedFields$Orders" 46 ⟨"java/lang/System", "arraycopy", "(Ljava/lang/Object;ILjava/lang/Object;II)V"⟩, .methodLink "PraisedFields$Orders" 52 yX3_nextRow, .privateMethod yX3_nextRow, .instanceMethod yX3_nextRow, .code yX3_nextRow prog_5_method_5_code 3 none, .methodLink "PraisedFields$Orders" 62 yX3_place, .privateMethod yX3_place, .instanceMethod yX3_place, .code yX3_place prog_5_method_6_code 3 none, .methodLink "PraisedFields$Orders" 66 yX3_toggle, .privateMethod yX3_toggle, .instanceMethod yX3_toggle, .code yX3_toggle prog_5_method_7_code 3 none, .methodLink "PraisedFieldsLaw" 89 yX6_move, .instanceMethod yX6_move, .selects "PraisedFields" yX6_move yX6_move, .code yX6_move prog_1_method_21_code 10 (some .int), .methodLink "PraisedFields" 186 yX2_gainBy, .instanceMethod yX2_gainBy, .selects "PraisedFields$Land" yX2_gainBy yX2_gainBy, .code yX2_gainBy prog_4_method_17_code 5 (some .int), .methodLink "PraisedFields$Land" 94 yX2_earsIf, .methodLink "PraisedFields" 189 yX2_allEarsBehind, .instanceMethod yX2_allEarsBehind, .selects "PraisedFields$Land" yX2_allEarsBehind yX2_allEarsBehind, .code yX2_allEarsBehind prog_4_method_18_code 4 (some .int), .methodLink "PraisedFieldsLaw" 93 yX6_still, .instanceMethod yX6_still, .selects "PraisedFields" yX6_still yX6_still, .code yX6_still prog_1_method_22_code 7 (some .int)] : List Cond), zok w = true → w ∈ zW := fun w h h3 => by
  have h1 : ([.instanceMethod yX3_beginRows, .code yX3_beginRows prog_5_method_4_code 3 none, .methodLink "PraisedFields$Orders" 46 ⟨"java/lang/System", "arraycopy", "(Ljava/lang/Object;ILjava/lang/Object;II)V"⟩, .methodLink "PraisedFields$Orders" 52 yX3_nextRow, .privateMethod yX3_nextRow, .instanceMethod yX3_nextRow, .code yX3_nextRow prog_5_method_5_code 3 none, .methodLink "PraisedFields$Orders" 62 yX3_place, .privateMethod yX3_place, .instanceMethod yX3_place, .code yX3_place prog_5_method_6_code 3 none, .methodLink "PraisedFields$Orders" 66 yX3_toggle, .privateMethod yX3_toggle, .instanceMethod yX3_toggle, .code yX3_toggle prog_5_method_7_code 3 none, .methodLink "PraisedFieldsLaw" 89 yX6_move, .instanceMethod yX6_move, .selects "PraisedFields" yX6_move yX6_move, .code yX6_move prog_1_method_21_code 10 (some .int), .methodLink "PraisedFields" 186 yX2_gainBy, .instanceMethod yX2_gainBy, .selects "PraisedFields$Land" yX2_gainBy yX2_gainBy, .code yX2_gainBy prog_4_method_17_code 5 (some .int), .methodLink "PraisedFields$Land" 94 yX2_earsIf, .methodLink "PraisedFields" 189 yX2_allEarsBehind, .instanceMethod yX2_allEarsBehind, .selects "PraisedFields$Land" yX2_allEarsBehind yX2_allEarsBehind, .code yX2_allEarsBehind prog_4_method_18_code 4 (some .int), .methodLink "PraisedFieldsLaw" 93 yX6_still, .instanceMethod yX6_still, .selects "PraisedFields" yX6_still yX6_still, .code yX6_still prog_1_method_22_code 7 (some .int)] : List Cond) = ((tables_1_3).drop 64).take 32 := rfl
  rw [h1] at h
  have h4 := List.mem_of_mem_drop (List.mem_of_mem_take h)
  exact List.mem_filter.mpr ⟨List.mem_append_right _ (List.mem_append_right _ (List.mem_append_right _ (List.mem_append_left _ h4))), h3⟩
theorem zg_3_3 : ∀ w ∈ ([.methodLink "PraisedFields" 192 yX6_sheavesWithout, .privateMethod yX6_sheavesWithout, .instanceMethod yX6_sheavesWithout, .code yX6_sheavesWithout prog_1_method_23_code 3 (some .int), .methodLink "PraisedFieldsLaw" 97 yX6_need, .instanceMethod yX6_need, .selects "PraisedFields" yX6_need yX6_need, .code yX6_need prog_1_method_24_code 7 (some .int), .methodLink "PraisedFieldsLaw" 101 yX6_swap, .instanceMethod yX6_swap, .selects "PraisedFields" yX6_swap yX6_swap, .code yX6_swap prog_1_method_25_code 9 (some .int), .methodLink "PraisedFieldsLaw" 105 yX6_bear, .instanceMethod yX6_bear, .selects "PraisedFields" yX6_bear yX6_bear, .code yX6_bear prog_1_method_26_code 6 (some .int), .methodLink "PraisedFields" 195 yX6_earsBehind, .methodLink "PraisedFieldsLaw" 109 yX6_kind, .instanceMethod yX6_kind, .selects "PraisedFields" yX6_kind yX6_kind, .code yX6_kind prog_1_method_27_code 9 (some .int), .methodLink "PraisedFieldsLaw" 113 yX6_luck, .instanceMethod yX6_luck, .selects "PraisedFields" yX6_luck yX6_luck, .code yX6_luck prog_1_method_28_code 6 (some .long), .constantLong "PraisedFields" 199 (-1), .methodLink "PraisedFields" 201 yX1_fallOn, .instanceMethod yX1_fallOn, .selects "PraisedFields$Hail" yX1_fallOn yX1_fallOn, .code yX1_fallOn prog_3_method_2_code 7 none, .methodLink "PraisedFields$Hail" 26 yX2_heardAt, .methodLink "PraisedFields$Hail" 34 yX1_part] : List Cond), zok w = true → w ∈ zW := fun w h h3 => by
  have h1 : ([.methodLink "PraisedFields" 192 yX6_sheavesWithout, .privateMethod yX6_sheavesWithout, .instanceMethod yX6_sheavesWithout, .code yX6_sheavesWithout prog_1_method_23_code 3 (some .int), .methodLink "PraisedFieldsLaw" 97 yX6_need, .instanceMethod yX6_need, .selects "PraisedFields" yX6_need yX6_need, .code yX6_need prog_1_method_24_code 7 (some .int), .methodLink "PraisedFieldsLaw" 101 yX6_swap, .instanceMethod yX6_swap, .selects "PraisedFields" yX6_swap yX6_swap, .code yX6_swap prog_1_method_25_code 9 (some .int), .methodLink "PraisedFieldsLaw" 105 yX6_bear, .instanceMethod yX6_bear, .selects "PraisedFields" yX6_bear yX6_bear, .code yX6_bear prog_1_method_26_code 6 (some .int), .methodLink "PraisedFields" 195 yX6_earsBehind, .methodLink "PraisedFieldsLaw" 109 yX6_kind, .instanceMethod yX6_kind, .selects "PraisedFields" yX6_kind yX6_kind, .code yX6_kind prog_1_method_27_code 9 (some .int), .methodLink "PraisedFieldsLaw" 113 yX6_luck, .instanceMethod yX6_luck, .selects "PraisedFields" yX6_luck yX6_luck, .code yX6_luck prog_1_method_28_code 6 (some .long), .constantLong "PraisedFields" 199 (-1), .methodLink "PraisedFields" 201 yX1_fallOn, .instanceMethod yX1_fallOn, .selects "PraisedFields$Hail" yX1_fallOn yX1_fallOn, .code yX1_fallOn prog_3_method_2_code 7 none, .methodLink "PraisedFields$Hail" 26 yX2_heardAt, .methodLink "PraisedFields$Hail" 34 yX1_part] : List Cond) = ((tables_1_3).drop 96).take 32 := rfl
  rw [h1] at h
  have h4 := List.mem_of_mem_drop (List.mem_of_mem_take h)
  exact List.mem_filter.mpr ⟨List.mem_append_right _ (List.mem_append_right _ (List.mem_append_right _ (List.mem_append_left _ h4))), h3⟩
theorem zg_3_4 : ∀ w ∈ ([.privateMethod yX1_part, .instanceMethod yX1_part, .code yX1_part prog_3_method_3_code 3 none, .methodLink "PraisedFields$Hail" 45 yJ9_min_7cf53, .methodLink "PraisedFields$Hail" 41 yX1_passWeek, .privateMethod yX1_passWeek, .instanceMethod yX1_passWeek, .code yX1_passWeek prog_3_method_4_code 4 none, .methodLinkNest "PraisedFields$Hail" 51 yX6_earsNext "PraisedFields", .methodLinkNest "PraisedFields$Hail" 55 yX6_blightNext "PraisedFields", .methodLink "PraisedFields" 205 yX1_weightOf, .instanceMethod yX1_weightOf, .selects "PraisedFields$Hail" yX1_weightOf yX1_weightOf, .code yX1_weightOf prog_3_method_5_code 5 (some .long), .methodLink "PraisedFields" 209 yX6_tenToThe, .static yX6_tenToThe, .code yX6_tenToThe prog_1_method_30_code 4 (some .long), .constantLong "PraisedFields" 220 10, .methodLink "PraisedFields" 212 yX6_lowestTerms, .static yX6_lowestTerms, .code yX6_lowestTerms prog_1_method_31_code 12 (some .long), .methodLink "PraisedFieldsLaw" 118 yX6_mean, .instanceMethod yX6_mean, .selects "PraisedFields" yX6_mean yX6_mean, .code yX6_mean prog_1_method_29_code 7 (some .long), .methodLink "PraisedFields" 216 yX1_weighedEars, .instanceMethod yX1_weighedEars, .selects "PraisedFields$Hail" yX1_weighedEars yX1_weighedEars, .code yX1_weighedEars prog_3_method_6_code 4 (some .long), .methodLink "PraisedFieldsLaw" 123 yX6_see, .instanceMethod yX6_see, .selects "PraisedFields" yX6_see yX6_see] : List Cond), zok w = true → w ∈ zW := fun w h h3 => by
  have h1 : ([.privateMethod yX1_part, .instanceMethod yX1_part, .code yX1_part prog_3_method_3_code 3 none, .methodLink "PraisedFields$Hail" 45 yJ9_min_7cf53, .methodLink "PraisedFields$Hail" 41 yX1_passWeek, .privateMethod yX1_passWeek, .instanceMethod yX1_passWeek, .code yX1_passWeek prog_3_method_4_code 4 none, .methodLinkNest "PraisedFields$Hail" 51 yX6_earsNext "PraisedFields", .methodLinkNest "PraisedFields$Hail" 55 yX6_blightNext "PraisedFields", .methodLink "PraisedFields" 205 yX1_weightOf, .instanceMethod yX1_weightOf, .selects "PraisedFields$Hail" yX1_weightOf yX1_weightOf, .code yX1_weightOf prog_3_method_5_code 5 (some .long), .methodLink "PraisedFields" 209 yX6_tenToThe, .static yX6_tenToThe, .code yX6_tenToThe prog_1_method_30_code 4 (some .long), .constantLong "PraisedFields" 220 10, .methodLink "PraisedFields" 212 yX6_lowestTerms, .static yX6_lowestTerms, .code yX6_lowestTerms prog_1_method_31_code 12 (some .long), .methodLink "PraisedFieldsLaw" 118 yX6_mean, .instanceMethod yX6_mean, .selects "PraisedFields" yX6_mean yX6_mean, .code yX6_mean prog_1_method_29_code 7 (some .long), .methodLink "PraisedFields" 216 yX1_weighedEars, .instanceMethod yX1_weighedEars, .selects "PraisedFields$Hail" yX1_weighedEars yX1_weighedEars, .code yX1_weighedEars prog_3_method_6_code 4 (some .long), .methodLink "PraisedFieldsLaw" 123 yX6_see, .instanceMethod yX6_see, .selects "PraisedFields" yX6_see yX6_see] : List Cond) = ((tables_1_3).drop 128).take 32 := rfl
  rw [h1] at h
  have h4 := List.mem_of_mem_drop (List.mem_of_mem_take h)
  exact List.mem_filter.mpr ⟨List.mem_append_right _ (List.mem_append_right _ (List.mem_append_right _ (List.mem_append_left _ h4))), h3⟩
theorem zg_3_5 : ∀ w ∈ ([.code yX6_see prog_1_method_32_code 4 (some .int), .methodLink "PraisedFields" 222 yX2_addSeen, .instanceMethod yX2_addSeen, .selects "PraisedFields$Land" yX2_addSeen yX2_addSeen, .code yX2_addSeen prog_4_method_6_code 4 (some .boolean), .methodLink "PraisedFieldsLaw" 127 yX6_forget, .instanceMethod yX6_forget, .selects "PraisedFields" yX6_forget yX6_forget, .code yX6_forget prog_1_method_33_code 3 (some .int), .methodLink "PraisedFieldsLaw" 131 yX6_kinds, .instanceMethod yX6_kinds, .selects "PraisedFields" yX6_kinds yX6_kinds, .code yX6_kinds prog_1_method_34_code 4 (some .int), .methodLink "PraisedFields" 228 yX2_isAsSeen, .instanceMethod yX2_isAsSeen, .selects "PraisedFields$Land" yX2_isAsSeen yX2_isAsSeen, .code yX2_isAsSeen prog_4_method_19_code 9 (some .boolean), .methodLink "PraisedFieldsLaw" 135 yX6_blights, .instanceMethod yX6_blights, .selects "PraisedFields" yX6_blights yX6_blights, .code yX6_blights prog_1_method_35_code 2 (some .int), .methodLink "PraisedFields" 231 yX6_blightsAsSeen, .privateMethod yX6_blightsAsSeen, .instanceMethod yX6_blightsAsSeen, .code yX6_blightsAsSeen prog_1_method_36_code 4 (some .int), .methodLink "PraisedFieldsLaw" 139 yX6_ask, .instanceMethod yX6_ask, .selects "PraisedFields" yX6_ask yX6_ask, .code yX6_ask prog_1_method_37_code 8 (some .int), .methodLink "PraisedFields" 234 yX0_begin, .instanceMethod yX0_begin, .selects "PraisedFields$Guesses" yX0_begin yX0_begin] : List Cond), zok w = true → w ∈ zW := fun w h h3 => by
  have h1 : ([.code yX6_see prog_1_method_32_code 4 (some .int), .methodLink "PraisedFields" 222 yX2_addSeen, .instanceMethod yX2_addSeen, .selects "PraisedFields$Land" yX2_addSeen yX2_addSeen, .code yX2_addSeen prog_4_method_6_code 4 (some .boolean), .methodLink "PraisedFieldsLaw" 127 yX6_forget, .instanceMethod yX6_forget, .selects "PraisedFields" yX6_forget yX6_forget, .code yX6_forget prog_1_method_33_code 3 (some .int), .methodLink "PraisedFieldsLaw" 131 yX6_kinds, .instanceMethod yX6_kinds, .selects "PraisedFields" yX6_kinds yX6_kinds, .code yX6_kinds prog_1_method_34_code 4 (some .int), .methodLink "PraisedFields" 228 yX2_isAsSeen, .instanceMethod yX2_isAsSeen, .selects "PraisedFields$Land" yX2_isAsSeen yX2_isAsSeen, .code yX2_isAsSeen prog_4_method_19_code 9 (some .boolean), .methodLink "PraisedFieldsLaw" 135 yX6_blights, .instanceMethod yX6_blights, .selects "PraisedFields" yX6_blights yX6_blights, .code yX6_blights prog_1_method_35_code 2 (some .int), .methodLink "PraisedFields" 231 yX6_blightsAsSeen, .privateMethod yX6_blightsAsSeen, .instanceMethod yX6_blightsAsSeen, .code yX6_blightsAsSeen prog_1_method_36_code 4 (some .int), .methodLink "PraisedFieldsLaw" 139 yX6_ask, .instanceMethod yX6_ask, .selects "PraisedFields" yX6_ask yX6_ask, .code yX6_ask prog_1_method_37_code 8 (some .int), .methodLink "PraisedFields" 234 yX0_begin, .instanceMethod yX0_begin, .selects "PraisedFields$Guesses" yX0_begin yX0_begin] : List Cond) = ((tables_1_3).drop 160).take 32 := rfl
  rw [h1] at h
  have h4 := List.mem_of_mem_drop (List.mem_of_mem_take h)
  exact List.mem_filter.mpr ⟨List.mem_append_right _ (List.mem_append_right _ (List.mem_append_right _ (List.mem_append_left _ h4))), h3⟩
theorem zg_3_6 : ∀ w ∈ ([.code yX0_begin prog_2_method_2_code 4 none, .methodLink "PraisedFields" 241 yX0_largestGroup, .instanceMethod yX0_largestGroup, .selects "PraisedFields$Guesses" yX0_largestGroup yX0_largestGroup, .code yX0_largestGroup prog_2_method_4_code 5 (some .int), .methodLink "PraisedFields$Guesses" 30 yJ9_max_7cf53, .methodLink "PraisedFields" 244 yX0_passWeek, .instanceMethod yX0_passWeek, .selects "PraisedFields$Guesses" yX0_passWeek yX0_passWeek, .code yX0_passWeek prog_2_method_3_code 4 none, .methodLinkNest "PraisedFields$Guesses" 22 yX6_earsNext "PraisedFields", .methodLinkNest "PraisedFields$Guesses" 26 yX6_blightNext "PraisedFields", .methodLink "PraisedFieldsLaw" 143 yX6_drift, .instanceMethod yX6_drift, .selects "PraisedFields" yX6_drift yX6_drift, .code yX6_drift prog_1_method_38_code 7 (some .int), .constant "PraisedFields" 247 1103515245, .methodLink "PraisedFields" 248 yX2_passWeek, .methodLink "PraisedFieldsLaw" 147 yX6_keep, .instanceMethod yX6_keep, .selects "PraisedFields" yX6_keep yX6_keep, .code yX6_keep prog_1_method_39_code 3 (some .int), .methodLink "PraisedFieldsLaw" 151 yX6_back, .instanceMethod yX6_back, .selects "PraisedFields" yX6_back yX6_back, .code yX6_back prog_1_method_40_code 2 (some .int), .methodLink "PraisedFieldsLaw" 155 yX6_sheet, .instanceMethod yX6_sheet, .selects "PraisedFields" yX6_sheet yX6_sheet, .code yX6_sheet prog_1_method_41_code 4 (some .int), .methodLink "PraisedFields" 250 yX4_renew, .instanceMethod yX4_renew] : List Cond), zok w = true → w ∈ zW := fun w h h3 => by
  have h1 : ([.code yX0_begin prog_2_method_2_code 4 none, .methodLink "PraisedFields" 241 yX0_largestGroup, .instanceMethod yX0_largestGroup, .selects "PraisedFields$Guesses" yX0_largestGroup yX0_largestGroup, .code yX0_largestGroup prog_2_method_4_code 5 (some .int), .methodLink "PraisedFields$Guesses" 30 yJ9_max_7cf53, .methodLink "PraisedFields" 244 yX0_passWeek, .instanceMethod yX0_passWeek, .selects "PraisedFields$Guesses" yX0_passWeek yX0_passWeek, .code yX0_passWeek prog_2_method_3_code 4 none, .methodLinkNest "PraisedFields$Guesses" 22 yX6_earsNext "PraisedFields", .methodLinkNest "PraisedFields$Guesses" 26 yX6_blightNext "PraisedFields", .methodLink "PraisedFieldsLaw" 143 yX6_drift, .instanceMethod yX6_drift, .selects "PraisedFields" yX6_drift yX6_drift, .code yX6_drift prog_1_method_38_code 7 (some .int), .constant "PraisedFields" 247 1103515245, .methodLink "PraisedFields" 248 yX2_passWeek, .methodLink "PraisedFieldsLaw" 147 yX6_keep, .instanceMethod yX6_keep, .selects "PraisedFields" yX6_keep yX6_keep, .code yX6_keep prog_1_method_39_code 3 (some .int), .methodLink "PraisedFieldsLaw" 151 yX6_back, .instanceMethod yX6_back, .selects "PraisedFields" yX6_back yX6_back, .code yX6_back prog_1_method_40_code 2 (some .int), .methodLink "PraisedFieldsLaw" 155 yX6_sheet, .instanceMethod yX6_sheet, .selects "PraisedFields" yX6_sheet yX6_sheet, .code yX6_sheet prog_1_method_41_code 4 (some .int), .methodLink "PraisedFields" 250 yX4_renew, .instanceMethod yX4_renew] : List Cond) = ((tables_1_3).drop 192).take 32 := rfl
  rw [h1] at h
  have h4 := List.mem_of_mem_drop (List.mem_of_mem_take h)
  exact List.mem_filter.mpr ⟨List.mem_append_right _ (List.mem_append_right _ (List.mem_append_right _ (List.mem_append_left _ h4))), h3⟩
theorem zg_3_7 : ∀ w ∈ ([.selects "PraisedFields$Sheets" yX4_renew yX4_renew, .code yX4_renew prog_6_method_2_code 5 none, .methodLink "PraisedFieldsLaw" 159 yX6_lay, .instanceMethod yX6_lay, .selects "PraisedFields" yX6_lay yX6_lay, .code yX6_lay prog_1_method_42_code 5 (some .int), .methodLink "PraisedFields" 257 yX4_faultAt, .instanceMethod yX4_faultAt, .selects "PraisedFields$Sheets" yX4_faultAt yX4_faultAt, .code yX4_faultAt prog_6_method_3_code 4 (some .int), .methodLinkNest "PraisedFields$Sheets" 21 yX6_within "PraisedFields", .methodLink "PraisedFields" 260 yX4_put, .instanceMethod yX4_put, .selects "PraisedFields$Sheets" yX4_put yX4_put, .code yX4_put prog_6_method_5_code 4 none, .methodLink "PraisedFields$Sheets" 29 yX4_lowestBits] : List Cond), zok w = true → w ∈ zW := fun w h h3 => by
  have h1 : ([.selects "PraisedFields$Sheets" yX4_renew yX4_renew, .code yX4_renew prog_6_method_2_code 5 none, .methodLink "PraisedFieldsLaw" 159 yX6_lay, .instanceMethod yX6_lay, .selects "PraisedFields" yX6_lay yX6_lay, .code yX6_lay prog_1_method_42_code 5 (some .int), .methodLink "PraisedFields" 257 yX4_faultAt, .instanceMethod yX4_faultAt, .selects "PraisedFields$Sheets" yX4_faultAt yX4_faultAt, .code yX4_faultAt prog_6_method_3_code 4 (some .int), .methodLinkNest "PraisedFields$Sheets" 21 yX6_within "PraisedFields", .methodLink "PraisedFields" 260 yX4_put, .instanceMethod yX4_put, .selects "PraisedFields$Sheets" yX4_put yX4_put, .code yX4_put prog_6_method_5_code 4 none, .methodLink "PraisedFields$Sheets" 29 yX4_lowestBits] : List Cond) = ((tables_1_3).drop 224).take 32 := rfl
  rw [h1] at h
  have h4 := List.mem_of_mem_drop (List.mem_of_mem_take h)
  exact List.mem_filter.mpr ⟨List.mem_append_right _ (List.mem_append_right _ (List.mem_append_right _ (List.mem_append_left _ h4))), h3⟩
theorem zg_4_0 : ∀ w ∈ ([.static yX4_lowestBits, .code yX4_lowestBits prog_6_method_7_code 2 (some .int), .methodLink "PraisedFieldsLaw" 163 yX6_read, .instanceMethod yX6_read, .selects "PraisedFields" yX6_read yX6_read, .code yX6_read prog_1_method_43_code 8 (some .int), .methodLink "PraisedFields" 263 yX4_pairFault, .instanceMethod yX4_pairFault, .selects "PraisedFields$Sheets" yX4_pairFault yX4_pairFault, .code yX4_pairFault prog_6_method_4_code 5 (some .int), .methodLink "PraisedFields$Sheets" 25 yX4_faultAt, .methodLink "PraisedFields" 266 yX4_get, .instanceMethod yX4_get, .selects "PraisedFields$Sheets" yX4_get yX4_get, .code yX4_get prog_6_method_6_code 3 (some .int), .methodLink "PraisedFields" 269 yX6_march, .methodLink "PraisedFieldsLaw" 168 yX6_torn, .instanceMethod yX6_torn, .selects "PraisedFields" yX6_torn yX6_torn, .code yX6_torn prog_1_method_44_code 1 (some .int), .methodLink "PraisedFieldsLaw" 172 yX6_count, .instanceMethod yX6_count, .selects "PraisedFields" yX6_count yX6_count, .code yX6_count prog_1_method_45_code 2 (some .int), .methodLink "PraisedFields" 274 yX2_allLoud, .instanceMethod yX2_allLoud, .selects "PraisedFields$Land" yX2_allLoud yX2_allLoud, .code yX2_allLoud prog_4_method_12_code 1 (some .int), .classLink "PraisedFieldsLaw" 10 "PraisedFieldsModel", .instantiable "PraisedFieldsModel" 29, .methodLink "PraisedFieldsLaw" 12 yX7_init, .instanceMethod yX7_init] : List Cond), zok w = true → w ∈ zW := fun w h h3 => by
  have h1 : ([.static yX4_lowestBits, .code yX4_lowestBits prog_6_method_7_code 2 (some .int), .methodLink "PraisedFieldsLaw" 163 yX6_read, .instanceMethod yX6_read, .selects "PraisedFields" yX6_read yX6_read, .code yX6_read prog_1_method_43_code 8 (some .int), .methodLink "PraisedFields" 263 yX4_pairFault, .instanceMethod yX4_pairFault, .selects "PraisedFields$Sheets" yX4_pairFault yX4_pairFault, .code yX4_pairFault prog_6_method_4_code 5 (some .int), .methodLink "PraisedFields$Sheets" 25 yX4_faultAt, .methodLink "PraisedFields" 266 yX4_get, .instanceMethod yX4_get, .selects "PraisedFields$Sheets" yX4_get yX4_get, .code yX4_get prog_6_method_6_code 3 (some .int), .methodLink "PraisedFields" 269 yX6_march, .methodLink "PraisedFieldsLaw" 168 yX6_torn, .instanceMethod yX6_torn, .selects "PraisedFields" yX6_torn yX6_torn, .code yX6_torn prog_1_method_44_code 1 (some .int), .methodLink "PraisedFieldsLaw" 172 yX6_count, .instanceMethod yX6_count, .selects "PraisedFields" yX6_count yX6_count, .code yX6_count prog_1_method_45_code 2 (some .int), .methodLink "PraisedFields" 274 yX2_allLoud, .instanceMethod yX2_allLoud, .selects "PraisedFields$Land" yX2_allLoud yX2_allLoud, .code yX2_allLoud prog_4_method_12_code 1 (some .int), .classLink "PraisedFieldsLaw" 10 "PraisedFieldsModel", .instantiable "PraisedFieldsModel" 29, .methodLink "PraisedFieldsLaw" 12 yX7_init, .instanceMethod yX7_init] : List Cond) = ((tables_1_4).drop 0).take 32 := rfl
  rw [h1] at h
  have h4 := List.mem_of_mem_drop (List.mem_of_mem_take h)
  exact List.mem_filter.mpr ⟨List.mem_append_right _ (List.mem_append_right _ (List.mem_append_right _ (List.mem_append_right _ (List.mem_append_left _ h4)))), h3⟩
theorem zg_4_1 : ∀ w ∈ ([.code yX7_init prog_9_method_1_code 2 none, .methodLink "PraisedFieldsModel" 1 ⟨"java/lang/Object", "<init>", "()V"⟩, .methodLink "PraisedFieldsModel" 47 yX7_firstDraft, .privateMethod yX7_firstDraft, .instanceMethod yX7_firstDraft, .code yX7_firstDraft prog_9_method_6_code 2 none, .methodLink "PraisedFieldsModel" 50 yX7_keepDraft, .privateMethod yX7_keepDraft, .instanceMethod yX7_keepDraft, .code yX7_keepDraft prog_9_method_7_code 2 none, .fieldLink "PraisedFieldsModel" 7 "PraisedFieldsModel" "st" "[I", .fieldLink "PraisedFieldsModel" 13 "PraisedFieldsModel" "now" "[I", .fieldLink "PraisedFieldsModel" 16 "PraisedFieldsModel" "isKept" "[Z", .fieldLink "PraisedFieldsModel" 20 "PraisedFieldsModel" "draft" "[I", .fieldLink "PraisedFieldsModel" 53 "PraisedFieldsModel" "hasGlut" "Z", .fieldLink "PraisedFieldsModel" 57 "PraisedFieldsModel" "highest" "I", .fieldLink "PraisedFieldsModel" 23 "PraisedFieldsModel" "tape" "[I", .fieldLink "PraisedFieldsModel" 67 "PraisedFieldsModel" "taped" "I", .fieldLink "PraisedFieldsModel" 79 "PraisedFieldsModel" "pos" "I", .fieldLink "PraisedFieldsModel" 73 "PraisedFieldsModel" "begun" "I", .fieldLink "PraisedFieldsModel" 94 "PraisedFieldsModel" "sort" "I", .fieldLink "PraisedFieldsModel" 105 "PraisedFieldsModel" "value" "I", .fieldLink "PraisedFieldsModel" 70 "PraisedFieldsModel" "fault" "I", .fieldLink "PraisedFieldsModel" 76 "PraisedFieldsModel" "wrongAt" "I", .fieldLink "PraisedFieldsModel" 135 "PraisedFieldsModel" "quiet" "I", .fieldLink "PraisedFieldsModel" 138 "PraisedFieldsModel" "fines" "I", .fieldLink "PraisedFieldsModel" 221 "PraisedFieldsModel" "bestCode" "I", .fieldLink "PraisedFieldsModel" 224 "PraisedFieldsModel" "bestMuch" "I", .fieldLink "PraisedFieldsModel" 26 "PraisedFieldsModel" "bestRow" "[I", .fieldLink "PraisedFieldsModel" 251 "PraisedFieldsModel" "fullSum" "J", .fieldLink "PraisedFieldsModel" 255 "PraisedFieldsModel" "earSum" "J", .fieldLink "PraisedFieldsModel" 258 "PraisedFieldsModel" "allWays" "J"] : List Cond), zok w = true → w ∈ zW := fun w h h3 => by
  have h1 : ([.code yX7_init prog_9_method_1_code 2 none, .methodLink "PraisedFieldsModel" 1 ⟨"java/lang/Object", "<init>", "()V"⟩, .methodLink "PraisedFieldsModel" 47 yX7_firstDraft, .privateMethod yX7_firstDraft, .instanceMethod yX7_firstDraft, .code yX7_firstDraft prog_9_method_6_code 2 none, .methodLink "PraisedFieldsModel" 50 yX7_keepDraft, .privateMethod yX7_keepDraft, .instanceMethod yX7_keepDraft, .code yX7_keepDraft prog_9_method_7_code 2 none, .fieldLink "PraisedFieldsModel" 7 "PraisedFieldsModel" "st" "[I", .fieldLink "PraisedFieldsModel" 13 "PraisedFieldsModel" "now" "[I", .fieldLink "PraisedFieldsModel" 16 "PraisedFieldsModel" "isKept" "[Z", .fieldLink "PraisedFieldsModel" 20 "PraisedFieldsModel" "draft" "[I", .fieldLink "PraisedFieldsModel" 53 "PraisedFieldsModel" "hasGlut" "Z", .fieldLink "PraisedFieldsModel" 57 "PraisedFieldsModel" "highest" "I", .fieldLink "PraisedFieldsModel" 23 "PraisedFieldsModel" "tape" "[I", .fieldLink "PraisedFieldsModel" 67 "PraisedFieldsModel" "taped" "I", .fieldLink "PraisedFieldsModel" 79 "PraisedFieldsModel" "pos" "I", .fieldLink "PraisedFieldsModel" 73 "PraisedFieldsModel" "begun" "I", .fieldLink "PraisedFieldsModel" 94 "PraisedFieldsModel" "sort" "I", .fieldLink "PraisedFieldsModel" 105 "PraisedFieldsModel" "value" "I", .fieldLink "PraisedFieldsModel" 70 "PraisedFieldsModel" "fault" "I", .fieldLink "PraisedFieldsModel" 76 "PraisedFieldsModel" "wrongAt" "I", .fieldLink "PraisedFieldsModel" 135 "PraisedFieldsModel" "quiet" "I", .fieldLink "PraisedFieldsModel" 138 "PraisedFieldsModel" "fines" "I", .fieldLink "PraisedFieldsModel" 221 "PraisedFieldsModel" "bestCode" "I", .fieldLink "PraisedFieldsModel" 224 "PraisedFieldsModel" "bestMuch" "I", .fieldLink "PraisedFieldsModel" 26 "PraisedFieldsModel" "bestRow" "[I", .fieldLink "PraisedFieldsModel" 251 "PraisedFieldsModel" "fullSum" "J", .fieldLink "PraisedFieldsModel" 255 "PraisedFieldsModel" "earSum" "J", .fieldLink "PraisedFieldsModel" 258 "PraisedFieldsModel" "allWays" "J"] : List Cond) = ((tables_1_4).drop 32).take 32 := rfl
  rw [h1] at h
  have h4 := List.mem_of_mem_drop (List.mem_of_mem_take h)
  exact List.mem_filter.mpr ⟨List.mem_append_right _ (List.mem_append_right _ (List.mem_append_right _ (List.mem_append_right _ (List.mem_append_left _ h4)))), h3⟩
theorem zg_4_2 : ∀ w ∈ ([.fieldLink "PraisedFieldsModel" 29 "PraisedFieldsModel" "had" "[I", .fieldLink "PraisedFieldsModel" 32 "PraisedFieldsModel" "byBlight" "[I", .fieldLink "PraisedFieldsModel" 35 "PraisedFieldsModel" "lanes" "[I", .fieldLink "PraisedFieldsModel" 38 "PraisedFieldsModel" "sizes" "[I", .fieldLink "PraisedFieldsModel" 41 "PraisedFieldsModel" "cells" "[I", .fieldLink "PraisedFieldsModel" 293 "PraisedFieldsModel" "torn" "I", .fieldLink "PraisedFieldsModel" 44 "PraisedFieldsModel" "before" "[I", .laysFinal "PraisedFieldsModel" "PraisedFieldsModel" "st" "[I", .soleField "PraisedFieldsModel" "st", .laysFinal "PraisedFieldsModel" "PraisedFieldsModel" "now" "[I", .soleField "PraisedFieldsModel" "now", .laysFinal "PraisedFieldsModel" "PraisedFieldsModel" "isKept" "[Z", .soleField "PraisedFieldsModel" "isKept", .laysFinal "PraisedFieldsModel" "PraisedFieldsModel" "draft" "[I", .soleField "PraisedFieldsModel" "draft", .lays "PraisedFieldsModel" "PraisedFieldsModel" "hasGlut" "Z", .soleField "PraisedFieldsModel" "hasGlut", .lays "PraisedFieldsModel" "PraisedFieldsModel" "highest" "I", .soleField "PraisedFieldsModel" "highest", .laysFinal "PraisedFieldsModel" "PraisedFieldsModel" "tape" "[I", .soleField "PraisedFieldsModel" "tape", .lays "PraisedFieldsModel" "PraisedFieldsModel" "taped" "I", .soleField "PraisedFieldsModel" "taped", .lays "PraisedFieldsModel" "PraisedFieldsModel" "pos" "I", .soleField "PraisedFieldsModel" "pos", .lays "PraisedFieldsModel" "PraisedFieldsModel" "begun" "I", .soleField "PraisedFieldsModel" "begun", .lays "PraisedFieldsModel" "PraisedFieldsModel" "sort" "I", .soleField "PraisedFieldsModel" "sort", .lays "PraisedFieldsModel" "PraisedFieldsModel" "value" "I", .soleField "PraisedFieldsModel" "value", .lays "PraisedFieldsModel" "PraisedFieldsModel" "fault" "I"] : List Cond), zok w = true → w ∈ zW := fun w h h3 => by
  have h1 : ([.fieldLink "PraisedFieldsModel" 29 "PraisedFieldsModel" "had" "[I", .fieldLink "PraisedFieldsModel" 32 "PraisedFieldsModel" "byBlight" "[I", .fieldLink "PraisedFieldsModel" 35 "PraisedFieldsModel" "lanes" "[I", .fieldLink "PraisedFieldsModel" 38 "PraisedFieldsModel" "sizes" "[I", .fieldLink "PraisedFieldsModel" 41 "PraisedFieldsModel" "cells" "[I", .fieldLink "PraisedFieldsModel" 293 "PraisedFieldsModel" "torn" "I", .fieldLink "PraisedFieldsModel" 44 "PraisedFieldsModel" "before" "[I", .laysFinal "PraisedFieldsModel" "PraisedFieldsModel" "st" "[I", .soleField "PraisedFieldsModel" "st", .laysFinal "PraisedFieldsModel" "PraisedFieldsModel" "now" "[I", .soleField "PraisedFieldsModel" "now", .laysFinal "PraisedFieldsModel" "PraisedFieldsModel" "isKept" "[Z", .soleField "PraisedFieldsModel" "isKept", .laysFinal "PraisedFieldsModel" "PraisedFieldsModel" "draft" "[I", .soleField "PraisedFieldsModel" "draft", .lays "PraisedFieldsModel" "PraisedFieldsModel" "hasGlut" "Z", .soleField "PraisedFieldsModel" "hasGlut", .lays "PraisedFieldsModel" "PraisedFieldsModel" "highest" "I", .soleField "PraisedFieldsModel" "highest", .laysFinal "PraisedFieldsModel" "PraisedFieldsModel" "tape" "[I", .soleField "PraisedFieldsModel" "tape", .lays "PraisedFieldsModel" "PraisedFieldsModel" "taped" "I", .soleField "PraisedFieldsModel" "taped", .lays "PraisedFieldsModel" "PraisedFieldsModel" "pos" "I", .soleField "PraisedFieldsModel" "pos", .lays "PraisedFieldsModel" "PraisedFieldsModel" "begun" "I", .soleField "PraisedFieldsModel" "begun", .lays "PraisedFieldsModel" "PraisedFieldsModel" "sort" "I", .soleField "PraisedFieldsModel" "sort", .lays "PraisedFieldsModel" "PraisedFieldsModel" "value" "I", .soleField "PraisedFieldsModel" "value", .lays "PraisedFieldsModel" "PraisedFieldsModel" "fault" "I"] : List Cond) = ((tables_1_4).drop 64).take 32 := rfl
  rw [h1] at h
  have h4 := List.mem_of_mem_drop (List.mem_of_mem_take h)
  exact List.mem_filter.mpr ⟨List.mem_append_right _ (List.mem_append_right _ (List.mem_append_right _ (List.mem_append_right _ (List.mem_append_left _ h4)))), h3⟩
theorem zg_4_3 : ∀ w ∈ ([.soleField "PraisedFieldsModel" "fault", .lays "PraisedFieldsModel" "PraisedFieldsModel" "wrongAt" "I", .soleField "PraisedFieldsModel" "wrongAt", .lays "PraisedFieldsModel" "PraisedFieldsModel" "quiet" "I", .soleField "PraisedFieldsModel" "quiet", .lays "PraisedFieldsModel" "PraisedFieldsModel" "fines" "I", .soleField "PraisedFieldsModel" "fines", .lays "PraisedFieldsModel" "PraisedFieldsModel" "bestCode" "I", .soleField "PraisedFieldsModel" "bestCode", .lays "PraisedFieldsModel" "PraisedFieldsModel" "bestMuch" "I", .soleField "PraisedFieldsModel" "bestMuch", .laysFinal "PraisedFieldsModel" "PraisedFieldsModel" "bestRow" "[I", .soleField "PraisedFieldsModel" "bestRow", .lays "PraisedFieldsModel" "PraisedFieldsModel" "fullSum" "J", .soleField "PraisedFieldsModel" "fullSum", .lays "PraisedFieldsModel" "PraisedFieldsModel" "earSum" "J", .soleField "PraisedFieldsModel" "earSum", .lays "PraisedFieldsModel" "PraisedFieldsModel" "allWays" "J", .soleField "PraisedFieldsModel" "allWays", .laysFinal "PraisedFieldsModel" "PraisedFieldsModel" "had" "[I", .soleField "PraisedFieldsModel" "had", .laysFinal "PraisedFieldsModel" "PraisedFieldsModel" "byBlight" "[I", .soleField "PraisedFieldsModel" "byBlight", .laysFinal "PraisedFieldsModel" "PraisedFieldsModel" "lanes" "[I", .soleField "PraisedFieldsModel" "lanes", .laysFinal "PraisedFieldsModel" "PraisedFieldsModel" "sizes" "[I", .soleField "PraisedFieldsModel" "sizes", .laysFinal "PraisedFieldsModel" "PraisedFieldsModel" "cells" "[I", .soleField "PraisedFieldsModel" "cells", .lays "PraisedFieldsModel" "PraisedFieldsModel" "torn" "I", .soleField "PraisedFieldsModel" "torn", .laysFinal "PraisedFieldsModel" "PraisedFieldsModel" "before" "[I"] : List Cond), zok w = true → w ∈ zW := fun w h h3 => by
  have h1 : ([.soleField "PraisedFieldsModel" "fault", .lays "PraisedFieldsModel" "PraisedFieldsModel" "wrongAt" "I", .soleField "PraisedFieldsModel" "wrongAt", .lays "PraisedFieldsModel" "PraisedFieldsModel" "quiet" "I", .soleField "PraisedFieldsModel" "quiet", .lays "PraisedFieldsModel" "PraisedFieldsModel" "fines" "I", .soleField "PraisedFieldsModel" "fines", .lays "PraisedFieldsModel" "PraisedFieldsModel" "bestCode" "I", .soleField "PraisedFieldsModel" "bestCode", .lays "PraisedFieldsModel" "PraisedFieldsModel" "bestMuch" "I", .soleField "PraisedFieldsModel" "bestMuch", .laysFinal "PraisedFieldsModel" "PraisedFieldsModel" "bestRow" "[I", .soleField "PraisedFieldsModel" "bestRow", .lays "PraisedFieldsModel" "PraisedFieldsModel" "fullSum" "J", .soleField "PraisedFieldsModel" "fullSum", .lays "PraisedFieldsModel" "PraisedFieldsModel" "earSum" "J", .soleField "PraisedFieldsModel" "earSum", .lays "PraisedFieldsModel" "PraisedFieldsModel" "allWays" "J", .soleField "PraisedFieldsModel" "allWays", .laysFinal "PraisedFieldsModel" "PraisedFieldsModel" "had" "[I", .soleField "PraisedFieldsModel" "had", .laysFinal "PraisedFieldsModel" "PraisedFieldsModel" "byBlight" "[I", .soleField "PraisedFieldsModel" "byBlight", .laysFinal "PraisedFieldsModel" "PraisedFieldsModel" "lanes" "[I", .soleField "PraisedFieldsModel" "lanes", .laysFinal "PraisedFieldsModel" "PraisedFieldsModel" "sizes" "[I", .soleField "PraisedFieldsModel" "sizes", .laysFinal "PraisedFieldsModel" "PraisedFieldsModel" "cells" "[I", .soleField "PraisedFieldsModel" "cells", .lays "PraisedFieldsModel" "PraisedFieldsModel" "torn" "I", .soleField "PraisedFieldsModel" "torn", .laysFinal "PraisedFieldsModel" "PraisedFieldsModel" "before" "[I"] : List Cond) = ((tables_1_4).drop 96).take 32 := rfl
  rw [h1] at h
  have h4 := List.mem_of_mem_drop (List.mem_of_mem_take h)
  exact List.mem_filter.mpr ⟨List.mem_append_right _ (List.mem_append_right _ (List.mem_append_right _ (List.mem_append_right _ (List.mem_append_left _ h4)))), h3⟩
theorem zg_4_4 : ∀ w ∈ ([.soleField "PraisedFieldsModel" "before", .superclass "PraisedFieldsModel" "java/lang/Object", .methodLink "PraisedFieldsLaw" 17 yX7_feed, .instanceMethod yX7_feed, .selects "PraisedFieldsModel" yX7_feed yX7_feed, .code yX7_feed prog_9_method_8_code 2 (some .int), .constantLong "PraisedFieldsModel" 61 127, .methodLink "PraisedFieldsModel" 63 yX7_in, .static yX7_in, .code yX7_in prog_9_method_3_code 6 (some .boolean), .methodLink "PraisedFieldsLaw" 21 yX7_end, .instanceMethod yX7_end, .selects "PraisedFieldsModel" yX7_end yX7_end, .code yX7_end prog_9_method_9_code 3 (some .int), .methodLink "PraisedFieldsLaw" 26 yX7_text, .instanceMethod yX7_text, .selects "PraisedFieldsModel" yX7_text yX7_text, .code yX7_text prog_9_method_20_code 2 (some .int), .methodLink "PraisedFieldsModel" 112 yX7_reads, .privateMethod yX7_reads, .instanceMethod yX7_reads, .code yX7_reads prog_9_method_15_code 2 none, .methodLink "PraisedFieldsModel" 82 yX7_byteAt, .privateMethod yX7_byteAt, .instanceMethod yX7_byteAt, .code yX7_byteAt prog_9_method_11_code 2 (some .int), .constantLong "PraisedFieldsModel" 97 97, .constantLong "PraisedFieldsModel" 99 122, .constantLong "PraisedFieldsModel" 101 48, .constantLong "PraisedFieldsModel" 103 57, .methodLink "PraisedFieldsModel" 108 yX7_requires, .privateMethod yX7_requires] : List Cond), zok w = true → w ∈ zW := fun w h h3 => by
  have h1 : ([.soleField "PraisedFieldsModel" "before", .superclass "PraisedFieldsModel" "java/lang/Object", .methodLink "PraisedFieldsLaw" 17 yX7_feed, .instanceMethod yX7_feed, .selects "PraisedFieldsModel" yX7_feed yX7_feed, .code yX7_feed prog_9_method_8_code 2 (some .int), .constantLong "PraisedFieldsModel" 61 127, .methodLink "PraisedFieldsModel" 63 yX7_in, .static yX7_in, .code yX7_in prog_9_method_3_code 6 (some .boolean), .methodLink "PraisedFieldsLaw" 21 yX7_end, .instanceMethod yX7_end, .selects "PraisedFieldsModel" yX7_end yX7_end, .code yX7_end prog_9_method_9_code 3 (some .int), .methodLink "PraisedFieldsLaw" 26 yX7_text, .instanceMethod yX7_text, .selects "PraisedFieldsModel" yX7_text yX7_text, .code yX7_text prog_9_method_20_code 2 (some .int), .methodLink "PraisedFieldsModel" 112 yX7_reads, .privateMethod yX7_reads, .instanceMethod yX7_reads, .code yX7_reads prog_9_method_15_code 2 none, .methodLink "PraisedFieldsModel" 82 yX7_byteAt, .privateMethod yX7_byteAt, .instanceMethod yX7_byteAt, .code yX7_byteAt prog_9_method_11_code 2 (some .int), .constantLong "PraisedFieldsModel" 97 97, .constantLong "PraisedFieldsModel" 99 122, .constantLong "PraisedFieldsModel" 101 48, .constantLong "PraisedFieldsModel" 103 57, .methodLink "PraisedFieldsModel" 108 yX7_requires, .privateMethod yX7_requires] : List Cond) = ((tables_1_4).drop 128).take 32 := rfl
  rw [h1] at h
  have h4 := List.mem_of_mem_drop (List.mem_of_mem_take h)
  exact List.mem_filter.mpr ⟨List.mem_append_right _ (List.mem_append_right _ (List.mem_append_right _ (List.mem_append_right _ (List.mem_append_left _ h4)))), h3⟩
theorem zg_4_5 : ∀ w ∈ ([.instanceMethod yX7_requires, .code yX7_requires prog_9_method_10_code 3 none, .methodLink "PraisedFieldsModel" 130 yX7_readLine, .privateMethod yX7_readLine, .instanceMethod yX7_readLine, .code yX7_readLine prog_9_method_19_code 2 none, .methodLink "PraisedFieldsModel" 122 yX7_lineNow, .privateMethod yX7_lineNow, .instanceMethod yX7_lineNow, .code yX7_lineNow prog_9_method_14_code 1 (some .int), .methodLink "PraisedFieldsModel" 86 yX7_is, .privateMethod yX7_is, .instanceMethod yX7_is, .code yX7_is prog_9_method_12_code 5 (some .boolean), .methodLink "PraisedFieldsModel" 90 yX7_endsIn, .privateMethod yX7_endsIn, .instanceMethod yX7_endsIn, .code yX7_endsIn prog_9_method_13_code 3 (some .boolean), .methodLink "PraisedFieldsModel" 126 yX7_readLineOf, .privateMethod yX7_readLineOf, .instanceMethod yX7_readLineOf, .code yX7_readLineOf prog_9_method_18_code 2 none, .methodLink "PraisedFieldsModel" 119 yX7_readBand, .privateMethod yX7_readBand, .instanceMethod yX7_readBand, .code yX7_readBand prog_9_method_17_code 2 none, .methodLink "PraisedFieldsModel" 115 yX7_readNumber, .privateMethod yX7_readNumber, .instanceMethod yX7_readNumber, .code yX7_readNumber prog_9_method_16_code 4 (some .int), .methodLink "PraisedFieldsLaw" 30 yX7_fault, .instanceMethod yX7_fault] : List Cond), zok w = true → w ∈ zW := fun w h h3 => by
  have h1 : ([.instanceMethod yX7_requires, .code yX7_requires prog_9_method_10_code 3 none, .methodLink "PraisedFieldsModel" 130 yX7_readLine, .privateMethod yX7_readLine, .instanceMethod yX7_readLine, .code yX7_readLine prog_9_method_19_code 2 none, .methodLink "PraisedFieldsModel" 122 yX7_lineNow, .privateMethod yX7_lineNow, .instanceMethod yX7_lineNow, .code yX7_lineNow prog_9_method_14_code 1 (some .int), .methodLink "PraisedFieldsModel" 86 yX7_is, .privateMethod yX7_is, .instanceMethod yX7_is, .code yX7_is prog_9_method_12_code 5 (some .boolean), .methodLink "PraisedFieldsModel" 90 yX7_endsIn, .privateMethod yX7_endsIn, .instanceMethod yX7_endsIn, .code yX7_endsIn prog_9_method_13_code 3 (some .boolean), .methodLink "PraisedFieldsModel" 126 yX7_readLineOf, .privateMethod yX7_readLineOf, .instanceMethod yX7_readLineOf, .code yX7_readLineOf prog_9_method_18_code 2 none, .methodLink "PraisedFieldsModel" 119 yX7_readBand, .privateMethod yX7_readBand, .instanceMethod yX7_readBand, .code yX7_readBand prog_9_method_17_code 2 none, .methodLink "PraisedFieldsModel" 115 yX7_readNumber, .privateMethod yX7_readNumber, .instanceMethod yX7_readNumber, .code yX7_readNumber prog_9_method_16_code 4 (some .int), .methodLink "PraisedFieldsLaw" 30 yX7_fault, .instanceMethod yX7_fault] : List Cond) = ((tables_1_4).drop 160).take 32 := rfl
  rw [h1] at h
  have h4 := List.mem_of_mem_drop (List.mem_of_mem_take h)
  exact List.mem_filter.mpr ⟨List.mem_append_right _ (List.mem_append_right _ (List.mem_append_right _ (List.mem_append_right _ (List.mem_append_left _ h4)))), h3⟩
theorem zg_4_6 : ∀ w ∈ ([.selects "PraisedFieldsModel" yX7_fault yX7_fault, .code yX7_fault prog_9_method_21_code 1 (some .int), .methodLink "PraisedFieldsLaw" 34 yX7_rule, .instanceMethod yX7_rule, .selects "PraisedFieldsModel" yX7_rule yX7_rule, .code yX7_rule prog_9_method_41_code 4 (some .int), .methodLink "PraisedFieldsModel" 180 yX7_starts, .privateMethod yX7_starts, .instanceMethod yX7_starts, .code yX7_starts prog_9_method_26_code 2 none, .methodLink "PraisedFieldsModel" 144 yX7_heardAt, .privateMethod yX7_heardAt, .instanceMethod yX7_heardAt, .code yX7_heardAt prog_9_method_32_code 4 (some .int), .methodLink "PraisedFieldsModel" 141 yX7_ofBand, .privateMethod yX7_ofBand, .instanceMethod yX7_ofBand, .code yX7_ofBand prog_9_method_30_code 3 (some .int), .methodLink "PraisedFieldsModel" 176 yX7_flag, .static yX7_flag, .code yX7_flag prog_9_method_4_code 1 (some .int), .methodLink "PraisedFieldsModel" 173 yX7_sumOf, .privateMethod yX7_sumOf, .instanceMethod yX7_sumOf, .code yX7_sumOf prog_9_method_38_code 4 (some .int), .methodLink "PraisedFieldsModel" 147 yX7_of, .privateMethod yX7_of, .instanceMethod yX7_of, .code yX7_of prog_9_method_28_code 3 (some .int), .methodLink "PraisedFieldsLaw" 39 yX7_field, .instanceMethod yX7_field, .selects "PraisedFieldsModel" yX7_field yX7_field] : List Cond), zok w = true → w ∈ zW := fun w h h3 => by
  have h1 : ([.selects "PraisedFieldsModel" yX7_fault yX7_fault, .code yX7_fault prog_9_method_21_code 1 (some .int), .methodLink "PraisedFieldsLaw" 34 yX7_rule, .instanceMethod yX7_rule, .selects "PraisedFieldsModel" yX7_rule yX7_rule, .code yX7_rule prog_9_method_41_code 4 (some .int), .methodLink "PraisedFieldsModel" 180 yX7_starts, .privateMethod yX7_starts, .instanceMethod yX7_starts, .code yX7_starts prog_9_method_26_code 2 none, .methodLink "PraisedFieldsModel" 144 yX7_heardAt, .privateMethod yX7_heardAt, .instanceMethod yX7_heardAt, .code yX7_heardAt prog_9_method_32_code 4 (some .int), .methodLink "PraisedFieldsModel" 141 yX7_ofBand, .privateMethod yX7_ofBand, .instanceMethod yX7_ofBand, .code yX7_ofBand prog_9_method_30_code 3 (some .int), .methodLink "PraisedFieldsModel" 176 yX7_flag, .static yX7_flag, .code yX7_flag prog_9_method_4_code 1 (some .int), .methodLink "PraisedFieldsModel" 173 yX7_sumOf, .privateMethod yX7_sumOf, .instanceMethod yX7_sumOf, .code yX7_sumOf prog_9_method_38_code 4 (some .int), .methodLink "PraisedFieldsModel" 147 yX7_of, .privateMethod yX7_of, .instanceMethod yX7_of, .code yX7_of prog_9_method_28_code 3 (some .int), .methodLink "PraisedFieldsLaw" 39 yX7_field, .instanceMethod yX7_field, .selects "PraisedFieldsModel" yX7_field yX7_field] : List Cond) = ((tables_1_4).drop 192).take 32 := rfl
  rw [h1] at h
  have h4 := List.mem_of_mem_drop (List.mem_of_mem_take h)
  exact List.mem_filter.mpr ⟨List.mem_append_right _ (List.mem_append_right _ (List.mem_append_right _ (List.mem_append_right _ (List.mem_append_left _ h4)))), h3⟩
theorem zg_4_7 : ∀ w ∈ ([.code yX7_field prog_9_method_42_code 3 (some .int), .methodLink "PraisedFieldsModel" 183 yX7_isField, .privateMethod yX7_isField, .instanceMethod yX7_isField, .code yX7_isField prog_9_method_22_code 2 (some .boolean), .methodLink "PraisedFieldsModel" 150 yX7_growsBy, .privateMethod yX7_growsBy, .instanceMethod yX7_growsBy, .code yX7_growsBy prog_9_method_33_code 3 (some .int), .methodLink "PraisedFieldsModel" 160 yX7_heeds, .privateMethod yX7_heeds, .instanceMethod yX7_heeds, .code yX7_heeds prog_9_method_34_code 3 (some .int), .methodLink "PraisedFieldsLaw" 43 yX7_band, .instanceMethod yX7_band, .selects "PraisedFieldsModel" yX7_band yX7_band] : List Cond), zok w = true → w ∈ zW := fun w h h3 => by
  have h1 : ([.code yX7_field prog_9_method_42_code 3 (some .int), .methodLink "PraisedFieldsModel" 183 yX7_isField, .privateMethod yX7_isField, .instanceMethod yX7_isField, .code yX7_isField prog_9_method_22_code 2 (some .boolean), .methodLink "PraisedFieldsModel" 150 yX7_growsBy, .privateMethod yX7_growsBy, .instanceMethod yX7_growsBy, .code yX7_growsBy prog_9_method_33_code 3 (some .int), .methodLink "PraisedFieldsModel" 160 yX7_heeds, .privateMethod yX7_heeds, .instanceMethod yX7_heeds, .code yX7_heeds prog_9_method_34_code 3 (some .int), .methodLink "PraisedFieldsLaw" 43 yX7_band, .instanceMethod yX7_band, .selects "PraisedFieldsModel" yX7_band yX7_band] : List Cond) = ((tables_1_4).drop 224).take 32 := rfl
  rw [h1] at h
  have h4 := List.mem_of_mem_drop (List.mem_of_mem_take h)
  exact List.mem_filter.mpr ⟨List.mem_append_right _ (List.mem_append_right _ (List.mem_append_right _ (List.mem_append_right _ (List.mem_append_left _ h4)))), h3⟩
theorem zg_5_0 : ∀ w ∈ ([.code yX7_band prog_9_method_43_code 3 (some .int), .methodLink "PraisedFieldsModel" 187 yX7_isBand, .privateMethod yX7_isBand, .instanceMethod yX7_isBand, .code yX7_isBand prog_9_method_23_code 2 (some .boolean), .methodLink "PraisedFieldsModel" 190 yX7_isPart, .static yX7_isPart, .code yX7_isPart prog_9_method_24_code 1 (some .boolean), .methodLink "PraisedFieldsLaw" 48 yX7_alter, .instanceMethod yX7_alter, .selects "PraisedFieldsModel" yX7_alter yX7_alter, .code yX7_alter prog_9_method_45_code 5 (some .int), .constantLong "PraisedFieldsModel" 193 3, .methodLink "PraisedFieldsModel" 195 yX7_areEars, .static yX7_areEars, .code yX7_areEars prog_9_method_25_code 1 (some .boolean), .constantLong "PraisedFieldsModel" 133 99, .constantLong "PraisedFieldsModel" 198 9, .methodLink "PraisedFieldsModel" 200 yX7_becomes, .privateMethod yX7_becomes, .instanceMethod yX7_becomes, .code yX7_becomes prog_9_method_44_code 4 (some .int), .methodLink "PraisedFieldsLaw" 52 yX7_march, .instanceMethod yX7_march, .selects "PraisedFieldsModel" yX7_march yX7_march, .code yX7_march prog_9_method_46_code 3 (some .int), .methodLink "PraisedFieldsLaw" 56 yX7_play, .instanceMethod yX7_play, .selects "PraisedFieldsModel" yX7_play yX7_play, .code yX7_play prog_9_method_47_code 3 (some .int), .methodLink "PraisedFieldsLaw" 60 yX7_glut, .instanceMethod yX7_glut] : List Cond), zok w = true → w ∈ zW := fun w h h3 => by
  have h1 : ([.code yX7_band prog_9_method_43_code 3 (some .int), .methodLink "PraisedFieldsModel" 187 yX7_isBand, .privateMethod yX7_isBand, .instanceMethod yX7_isBand, .code yX7_isBand prog_9_method_23_code 2 (some .boolean), .methodLink "PraisedFieldsModel" 190 yX7_isPart, .static yX7_isPart, .code yX7_isPart prog_9_method_24_code 1 (some .boolean), .methodLink "PraisedFieldsLaw" 48 yX7_alter, .instanceMethod yX7_alter, .selects "PraisedFieldsModel" yX7_alter yX7_alter, .code yX7_alter prog_9_method_45_code 5 (some .int), .constantLong "PraisedFieldsModel" 193 3, .methodLink "PraisedFieldsModel" 195 yX7_areEars, .static yX7_areEars, .code yX7_areEars prog_9_method_25_code 1 (some .boolean), .constantLong "PraisedFieldsModel" 133 99, .constantLong "PraisedFieldsModel" 198 9, .methodLink "PraisedFieldsModel" 200 yX7_becomes, .privateMethod yX7_becomes, .instanceMethod yX7_becomes, .code yX7_becomes prog_9_method_44_code 4 (some .int), .methodLink "PraisedFieldsLaw" 52 yX7_march, .instanceMethod yX7_march, .selects "PraisedFieldsModel" yX7_march yX7_march, .code yX7_march prog_9_method_46_code 3 (some .int), .methodLink "PraisedFieldsLaw" 56 yX7_play, .instanceMethod yX7_play, .selects "PraisedFieldsModel" yX7_play yX7_play, .code yX7_play prog_9_method_47_code 3 (some .int), .methodLink "PraisedFieldsLaw" 60 yX7_glut, .instanceMethod yX7_glut] : List Cond) = ((tables_1_5).drop 0).take 32 := rfl
  rw [h1] at h
  have h4 := List.mem_of_mem_drop (List.mem_of_mem_take h)
  exact List.mem_filter.mpr ⟨List.mem_append_right _ (List.mem_append_right _ (List.mem_append_right _ (List.mem_append_right _ (List.mem_append_right _ (h4))))), h3⟩
theorem zg_5_1 : ∀ w ∈ ([.selects "PraisedFieldsModel" yX7_glut yX7_glut, .code yX7_glut prog_9_method_48_code 2 (some .int), .methodLink "PraisedFieldsLaw" 64 yX7_hire, .instanceMethod yX7_hire, .selects "PraisedFieldsModel" yX7_hire yX7_hire, .code yX7_hire prog_9_method_49_code 3 (some .int), .methodLink "PraisedFieldsLaw" 68 yX7_leave, .instanceMethod yX7_leave, .selects "PraisedFieldsModel" yX7_leave yX7_leave, .code yX7_leave prog_9_method_50_code 2 (some .int), .methodLink "PraisedFieldsLaw" 72 yX7_weeks, .instanceMethod yX7_weeks, .selects "PraisedFieldsModel" yX7_weeks yX7_weeks, .code yX7_weeks prog_9_method_51_code 3 (some .int), .constantLong "PraisedFieldsModel" 203 30, .methodLink "PraisedFieldsModel" 205 yX7_earsBehind, .privateMethod yX7_earsBehind, .instanceMethod yX7_earsBehind, .code yX7_earsBehind prog_9_method_39_code 2 (some .int), .methodLink "PraisedFieldsModel" 170 yX7_weeksGo, .privateMethod yX7_weeksGo, .instanceMethod yX7_weeksGo, .code yX7_weeksGo prog_9_method_37_code 3 none, .methodLink "PraisedFieldsModel" 166 yX7_weekGoes, .privateMethod yX7_weekGoes, .instanceMethod yX7_weekGoes, .code yX7_weekGoes prog_9_method_36_code 3 none, .methodLink "PraisedFieldsModel" 153 yX7_within, .static yX7_within, .code yX7_within prog_9_method_5_code 2 (some .int), .methodLink "PraisedFieldsModel" 156 yX7_becomesOf, .privateMethod yX7_becomesOf] : List Cond), zok w = true → w ∈ zW := fun w h h3 => by
  have h1 : ([.selects "PraisedFieldsModel" yX7_glut yX7_glut, .code yX7_glut prog_9_method_48_code 2 (some .int), .methodLink "PraisedFieldsLaw" 64 yX7_hire, .instanceMethod yX7_hire, .selects "PraisedFieldsModel" yX7_hire yX7_hire, .code yX7_hire prog_9_method_49_code 3 (some .int), .methodLink "PraisedFieldsLaw" 68 yX7_leave, .instanceMethod yX7_leave, .selects "PraisedFieldsModel" yX7_leave yX7_leave, .code yX7_leave prog_9_method_50_code 2 (some .int), .methodLink "PraisedFieldsLaw" 72 yX7_weeks, .instanceMethod yX7_weeks, .selects "PraisedFieldsModel" yX7_weeks yX7_weeks, .code yX7_weeks prog_9_method_51_code 3 (some .int), .constantLong "PraisedFieldsModel" 203 30, .methodLink "PraisedFieldsModel" 205 yX7_earsBehind, .privateMethod yX7_earsBehind, .instanceMethod yX7_earsBehind, .code yX7_earsBehind prog_9_method_39_code 2 (some .int), .methodLink "PraisedFieldsModel" 170 yX7_weeksGo, .privateMethod yX7_weeksGo, .instanceMethod yX7_weeksGo, .code yX7_weeksGo prog_9_method_37_code 3 none, .methodLink "PraisedFieldsModel" 166 yX7_weekGoes, .privateMethod yX7_weekGoes, .instanceMethod yX7_weekGoes, .code yX7_weekGoes prog_9_method_36_code 3 none, .methodLink "PraisedFieldsModel" 153 yX7_within, .static yX7_within, .code yX7_within prog_9_method_5_code 2 (some .int), .methodLink "PraisedFieldsModel" 156 yX7_becomesOf, .privateMethod yX7_becomesOf] : List Cond) = ((tables_1_5).drop 32).take 32 := rfl
  rw [h1] at h
  have h4 := List.mem_of_mem_drop (List.mem_of_mem_take h)
  exact List.mem_filter.mpr ⟨List.mem_append_right _ (List.mem_append_right _ (List.mem_append_right _ (List.mem_append_right _ (List.mem_append_right _ (h4))))), h3⟩
theorem zg_5_2 : ∀ w ∈ ([.instanceMethod yX7_becomesOf, .code yX7_becomesOf prog_9_method_29_code 4 none, .methodLink "PraisedFieldsModel" 163 yX7_fieldGoes, .privateMethod yX7_fieldGoes, .instanceMethod yX7_fieldGoes, .code yX7_fieldGoes prog_9_method_35_code 3 none, .methodLink "PraisedFieldsModel" 208 yX7_settles, .privateMethod yX7_settles, .instanceMethod yX7_settles, .code yX7_settles prog_9_method_27_code 2 none, .methodLink "PraisedFieldsLaw" 76 yX7_runs, .instanceMethod yX7_runs, .selects "PraisedFieldsModel" yX7_runs yX7_runs, .code yX7_runs prog_9_method_53_code 3 (some .int), .methodLink "PraisedFieldsModel" 213 yX7_isFar, .static yX7_isFar, .code yX7_isFar prog_9_method_52_code 1 (some .boolean), .constantLong "PraisedFieldsModel" 211 60, .constantLong "PraisedFieldsModel" 216 4, .methodLink "PraisedFieldsModel" 218 yX7_emptyNow, .privateMethod yX7_emptyNow, .instanceMethod yX7_emptyNow, .code yX7_emptyNow prog_9_method_40_code 3 (some .int), .methodLink "PraisedFieldsLaw" 80 yX7_ahead, .instanceMethod yX7_ahead, .selects "PraisedFieldsModel" yX7_ahead yX7_ahead, .code yX7_ahead prog_9_method_54_code 4 (some .int), .methodLink "PraisedFieldsLaw" 84 yX7_late, .instanceMethod yX7_late, .selects "PraisedFieldsModel" yX7_late yX7_late, .code yX7_late prog_9_method_55_code 4 (some .int), .methodLink "PraisedFieldsLaw" 88 yX7_order] : List Cond), zok w = true → w ∈ zW := fun w h h3 => by
  have h1 : ([.instanceMethod yX7_becomesOf, .code yX7_becomesOf prog_9_method_29_code 4 none, .methodLink "PraisedFieldsModel" 163 yX7_fieldGoes, .privateMethod yX7_fieldGoes, .instanceMethod yX7_fieldGoes, .code yX7_fieldGoes prog_9_method_35_code 3 none, .methodLink "PraisedFieldsModel" 208 yX7_settles, .privateMethod yX7_settles, .instanceMethod yX7_settles, .code yX7_settles prog_9_method_27_code 2 none, .methodLink "PraisedFieldsLaw" 76 yX7_runs, .instanceMethod yX7_runs, .selects "PraisedFieldsModel" yX7_runs yX7_runs, .code yX7_runs prog_9_method_53_code 3 (some .int), .methodLink "PraisedFieldsModel" 213 yX7_isFar, .static yX7_isFar, .code yX7_isFar prog_9_method_52_code 1 (some .boolean), .constantLong "PraisedFieldsModel" 211 60, .constantLong "PraisedFieldsModel" 216 4, .methodLink "PraisedFieldsModel" 218 yX7_emptyNow, .privateMethod yX7_emptyNow, .instanceMethod yX7_emptyNow, .code yX7_emptyNow prog_9_method_40_code 3 (some .int), .methodLink "PraisedFieldsLaw" 80 yX7_ahead, .instanceMethod yX7_ahead, .selects "PraisedFieldsModel" yX7_ahead yX7_ahead, .code yX7_ahead prog_9_method_54_code 4 (some .int), .methodLink "PraisedFieldsLaw" 84 yX7_late, .instanceMethod yX7_late, .selects "PraisedFieldsModel" yX7_late yX7_late, .code yX7_late prog_9_method_55_code 4 (some .int), .methodLink "PraisedFieldsLaw" 88 yX7_order] : List Cond) = ((tables_1_5).drop 64).take 32 := rfl
  rw [h1] at h
  have h4 := List.mem_of_mem_drop (List.mem_of_mem_take h)
  exact List.mem_filter.mpr ⟨List.mem_append_right _ (List.mem_append_right _ (List.mem_append_right _ (List.mem_append_right _ (List.mem_append_right _ (h4))))), h3⟩
theorem zg_5_3 : ∀ w ∈ ([.instanceMethod yX7_order, .selects "PraisedFieldsModel" yX7_order yX7_order, .code yX7_order prog_9_method_60_code 2 (some .int), .constantLong "PraisedFieldsModel" 237 10, .constantLong "PraisedFieldsModel" 239 13, .methodLink "PraisedFieldsModel" 241 yX7_findOrder, .privateMethod yX7_findOrder, .instanceMethod yX7_findOrder, .code yX7_findOrder prog_9_method_59_code 6 none, .methodLink "PraisedFieldsModel" 227 yX7_startsJudging, .privateMethod yX7_startsJudging, .instanceMethod yX7_startsJudging, .code yX7_startsJudging prog_9_method_56_code 2 none, .methodLink "PraisedFieldsModel" 230 yX7_bandBecomes, .privateMethod yX7_bandBecomes, .instanceMethod yX7_bandBecomes, .code yX7_bandBecomes prog_9_method_31_code 4 none, .methodLink "PraisedFieldsModel" 233 yX7_judges, .privateMethod yX7_judges, .instanceMethod yX7_judges, .code yX7_judges prog_9_method_57_code 3 none, .methodLink "PraisedFieldsLaw" 92 yX7_move, .instanceMethod yX7_move, .selects "PraisedFieldsModel" yX7_move yX7_move, .code yX7_move prog_9_method_61_code 5 (some .int), .methodLink "PraisedFieldsModel" 244 yX7_judged, .privateMethod yX7_judged, .instanceMethod yX7_judged, .code yX7_judged prog_9_method_58_code 2 (some .int), .methodLink "PraisedFieldsLaw" 96 yX7_still, .instanceMethod yX7_still, .selects "PraisedFieldsModel" yX7_still yX7_still] : List Cond), zok w = true → w ∈ zW := fun w h h3 => by
  have h1 : ([.instanceMethod yX7_order, .selects "PraisedFieldsModel" yX7_order yX7_order, .code yX7_order prog_9_method_60_code 2 (some .int), .constantLong "PraisedFieldsModel" 237 10, .constantLong "PraisedFieldsModel" 239 13, .methodLink "PraisedFieldsModel" 241 yX7_findOrder, .privateMethod yX7_findOrder, .instanceMethod yX7_findOrder, .code yX7_findOrder prog_9_method_59_code 6 none, .methodLink "PraisedFieldsModel" 227 yX7_startsJudging, .privateMethod yX7_startsJudging, .instanceMethod yX7_startsJudging, .code yX7_startsJudging prog_9_method_56_code 2 none, .methodLink "PraisedFieldsModel" 230 yX7_bandBecomes, .privateMethod yX7_bandBecomes, .instanceMethod yX7_bandBecomes, .code yX7_bandBecomes prog_9_method_31_code 4 none, .methodLink "PraisedFieldsModel" 233 yX7_judges, .privateMethod yX7_judges, .instanceMethod yX7_judges, .code yX7_judges prog_9_method_57_code 3 none, .methodLink "PraisedFieldsLaw" 92 yX7_move, .instanceMethod yX7_move, .selects "PraisedFieldsModel" yX7_move yX7_move, .code yX7_move prog_9_method_61_code 5 (some .int), .methodLink "PraisedFieldsModel" 244 yX7_judged, .privateMethod yX7_judged, .instanceMethod yX7_judged, .code yX7_judged prog_9_method_58_code 2 (some .int), .methodLink "PraisedFieldsLaw" 96 yX7_still, .instanceMethod yX7_still, .selects "PraisedFieldsModel" yX7_still yX7_still] : List Cond) = ((tables_1_5).drop 96).take 32 := rfl
  rw [h1] at h
  have h4 := List.mem_of_mem_drop (List.mem_of_mem_take h)
  exact List.mem_filter.mpr ⟨List.mem_append_right _ (List.mem_append_right _ (List.mem_append_right _ (List.mem_append_right _ (List.mem_append_right _ (h4))))), h3⟩
theorem zg_5_4 : ∀ w ∈ ([.code yX7_still prog_9_method_62_code 4 (some .int), .methodLink "PraisedFieldsLaw" 100 yX7_need, .instanceMethod yX7_need, .selects "PraisedFieldsModel" yX7_need yX7_need, .code yX7_need prog_9_method_63_code 5 (some .int), .methodLink "PraisedFieldsLaw" 104 yX7_swap, .instanceMethod yX7_swap, .selects "PraisedFieldsModel" yX7_swap yX7_swap, .code yX7_swap prog_9_method_64_code 7 (some .int), .methodLink "PraisedFieldsLaw" 108 yX7_bear, .instanceMethod yX7_bear, .selects "PraisedFieldsModel" yX7_bear yX7_bear, .code yX7_bear prog_9_method_65_code 5 (some .int), .methodLink "PraisedFieldsLaw" 112 yX7_kind, .instanceMethod yX7_kind, .selects "PraisedFieldsModel" yX7_kind yX7_kind, .code yX7_kind prog_9_method_66_code 5 (some .int), .methodLink "PraisedFieldsLaw" 117 yX7_luck, .instanceMethod yX7_luck, .selects "PraisedFieldsModel" yX7_luck yX7_luck, .code yX7_luck prog_9_method_70_code 6 (some .long), .constantLong "PraisedFieldsModel" 261 8, .constantLong "PraisedFieldsModel" 263 (-1), .methodLink "PraisedFieldsModel" 265 yX7_findOdds, .privateMethod yX7_findOdds, .instanceMethod yX7_findOdds, .code yX7_findOdds prog_9_method_69_code 10 none, .methodLink "PraisedFieldsModel" 269 yX7_lowest, .static yX7_lowest, .code yX7_lowest prog_9_method_68_code 7 (some .long), .methodLink "PraisedFieldsModel" 247 yX7_common, .static yX7_common] : List Cond), zok w = true → w ∈ zW := fun w h h3 => by
  have h1 : ([.code yX7_still prog_9_method_62_code 4 (some .int), .methodLink "PraisedFieldsLaw" 100 yX7_need, .instanceMethod yX7_need, .selects "PraisedFieldsModel" yX7_need yX7_need, .code yX7_need prog_9_method_63_code 5 (some .int), .methodLink "PraisedFieldsLaw" 104 yX7_swap, .instanceMethod yX7_swap, .selects "PraisedFieldsModel" yX7_swap yX7_swap, .code yX7_swap prog_9_method_64_code 7 (some .int), .methodLink "PraisedFieldsLaw" 108 yX7_bear, .instanceMethod yX7_bear, .selects "PraisedFieldsModel" yX7_bear yX7_bear, .code yX7_bear prog_9_method_65_code 5 (some .int), .methodLink "PraisedFieldsLaw" 112 yX7_kind, .instanceMethod yX7_kind, .selects "PraisedFieldsModel" yX7_kind yX7_kind, .code yX7_kind prog_9_method_66_code 5 (some .int), .methodLink "PraisedFieldsLaw" 117 yX7_luck, .instanceMethod yX7_luck, .selects "PraisedFieldsModel" yX7_luck yX7_luck, .code yX7_luck prog_9_method_70_code 6 (some .long), .constantLong "PraisedFieldsModel" 261 8, .constantLong "PraisedFieldsModel" 263 (-1), .methodLink "PraisedFieldsModel" 265 yX7_findOdds, .privateMethod yX7_findOdds, .instanceMethod yX7_findOdds, .code yX7_findOdds prog_9_method_69_code 10 none, .methodLink "PraisedFieldsModel" 269 yX7_lowest, .static yX7_lowest, .code yX7_lowest prog_9_method_68_code 7 (some .long), .methodLink "PraisedFieldsModel" 247 yX7_common, .static yX7_common] : List Cond) = ((tables_1_5).drop 128).take 32 := rfl
  rw [h1] at h
  have h4 := List.mem_of_mem_drop (List.mem_of_mem_take h)
  exact List.mem_filter.mpr ⟨List.mem_append_right _ (List.mem_append_right _ (List.mem_append_right _ (List.mem_append_right _ (List.mem_append_right _ (h4))))), h3⟩
theorem zg_5_5 : ∀ w ∈ ([.code yX7_common prog_9_method_67_code 10 (some .long), .methodLink "PraisedFieldsLaw" 122 yX7_mean, .instanceMethod yX7_mean, .selects "PraisedFieldsModel" yX7_mean yX7_mean, .code yX7_mean prog_9_method_71_code 4 (some .long), .methodLink "PraisedFieldsLaw" 126 yX7_see, .instanceMethod yX7_see, .selects "PraisedFieldsModel" yX7_see yX7_see, .code yX7_see prog_9_method_72_code 5 (some .int), .constantLong "PraisedFieldsModel" 273 20, .methodLink "PraisedFieldsLaw" 130 yX7_forget, .instanceMethod yX7_forget, .selects "PraisedFieldsModel" yX7_forget yX7_forget, .code yX7_forget prog_9_method_73_code 2 (some .int), .methodLink "PraisedFieldsLaw" 134 yX7_kinds, .instanceMethod yX7_kinds, .selects "PraisedFieldsModel" yX7_kinds yX7_kinds, .code yX7_kinds prog_9_method_76_code 2 (some .int), .methodLink "PraisedFieldsModel" 278 yX7_which, .privateMethod yX7_which, .instanceMethod yX7_which, .code yX7_which prog_9_method_75_code 5 (some .int), .methodLink "PraisedFieldsModel" 275 yX7_isSoWith, .privateMethod yX7_isSoWith, .instanceMethod yX7_isSoWith, .code yX7_isSoWith prog_9_method_74_code 6 (some .boolean), .methodLink "PraisedFieldsLaw" 138 yX7_blights, .instanceMethod yX7_blights, .selects "PraisedFieldsModel" yX7_blights yX7_blights, .code yX7_blights prog_9_method_77_code 2 (some .int), .methodLink "PraisedFieldsLaw" 142 yX7_ask, .instanceMethod yX7_ask] : List Cond), zok w = true → w ∈ zW := fun w h h3 => by
  have h1 : ([.code yX7_common prog_9_method_67_code 10 (some .long), .methodLink "PraisedFieldsLaw" 122 yX7_mean, .instanceMethod yX7_mean, .selects "PraisedFieldsModel" yX7_mean yX7_mean, .code yX7_mean prog_9_method_71_code 4 (some .long), .methodLink "PraisedFieldsLaw" 126 yX7_see, .instanceMethod yX7_see, .selects "PraisedFieldsModel" yX7_see yX7_see, .code yX7_see prog_9_method_72_code 5 (some .int), .constantLong "PraisedFieldsModel" 273 20, .methodLink "PraisedFieldsLaw" 130 yX7_forget, .instanceMethod yX7_forget, .selects "PraisedFieldsModel" yX7_forget yX7_forget, .code yX7_forget prog_9_method_73_code 2 (some .int), .methodLink "PraisedFieldsLaw" 134 yX7_kinds, .instanceMethod yX7_kinds, .selects "PraisedFieldsModel" yX7_kinds yX7_kinds, .code yX7_kinds prog_9_method_76_code 2 (some .int), .methodLink "PraisedFieldsModel" 278 yX7_which, .privateMethod yX7_which, .instanceMethod yX7_which, .code yX7_which prog_9_method_75_code 5 (some .int), .methodLink "PraisedFieldsModel" 275 yX7_isSoWith, .privateMethod yX7_isSoWith, .instanceMethod yX7_isSoWith, .code yX7_isSoWith prog_9_method_74_code 6 (some .boolean), .methodLink "PraisedFieldsLaw" 138 yX7_blights, .instanceMethod yX7_blights, .selects "PraisedFieldsModel" yX7_blights yX7_blights, .code yX7_blights prog_9_method_77_code 2 (some .int), .methodLink "PraisedFieldsLaw" 142 yX7_ask, .instanceMethod yX7_ask] : List Cond) = ((tables_1_5).drop 160).take 32 := rfl
  rw [h1] at h
  have h4 := List.mem_of_mem_drop (List.mem_of_mem_take h)
  exact List.mem_filter.mpr ⟨List.mem_append_right _ (List.mem_append_right _ (List.mem_append_right _ (List.mem_append_right _ (List.mem_append_right _ (h4))))), h3⟩
theorem zg_5_6 : ∀ w ∈ ([.selects "PraisedFieldsModel" yX7_ask yX7_ask, .code yX7_ask prog_9_method_78_code 11 (some .int), .methodLink "PraisedFieldsLaw" 146 yX7_drift, .instanceMethod yX7_drift, .selects "PraisedFieldsModel" yX7_drift yX7_drift, .code yX7_drift prog_9_method_79_code 7 (some .int), .constant "PraisedFieldsModel" 281 1103515245, .methodLink "PraisedFieldsLaw" 150 yX7_keep, .instanceMethod yX7_keep, .selects "PraisedFieldsModel" yX7_keep yX7_keep, .code yX7_keep prog_9_method_81_code 3 (some .int), .methodLink "PraisedFieldsModel" 282 yX7_copies, .privateMethod yX7_copies, .instanceMethod yX7_copies, .code yX7_copies prog_9_method_80_code 4 none, .methodLink "PraisedFieldsLaw" 154 yX7_back, .instanceMethod yX7_back, .selects "PraisedFieldsModel" yX7_back yX7_back, .code yX7_back prog_9_method_82_code 2 (some .int), .methodLink "PraisedFieldsLaw" 158 yX7_sheet, .instanceMethod yX7_sheet, .selects "PraisedFieldsModel" yX7_sheet yX7_sheet, .code yX7_sheet prog_9_method_84_code 5 (some .int), .methodLink "PraisedFieldsModel" 287 yX7_isSheet, .static yX7_isSheet, .code yX7_isSheet prog_9_method_83_code 2 (some .boolean), .constantLong "PraisedFieldsModel" 285 2, .methodLink "PraisedFieldsLaw" 162 yX7_lay, .instanceMethod yX7_lay, .selects "PraisedFieldsModel" yX7_lay yX7_lay, .code yX7_lay prog_9_method_85_code 4 (some .int), .methodLink "PraisedFieldsLaw" 167 yX7_read] : List Cond), zok w = true → w ∈ zW := fun w h h3 => by
  have h1 : ([.selects "PraisedFieldsModel" yX7_ask yX7_ask, .code yX7_ask prog_9_method_78_code 11 (some .int), .methodLink "PraisedFieldsLaw" 146 yX7_drift, .instanceMethod yX7_drift, .selects "PraisedFieldsModel" yX7_drift yX7_drift, .code yX7_drift prog_9_method_79_code 7 (some .int), .constant "PraisedFieldsModel" 281 1103515245, .methodLink "PraisedFieldsLaw" 150 yX7_keep, .instanceMethod yX7_keep, .selects "PraisedFieldsModel" yX7_keep yX7_keep, .code yX7_keep prog_9_method_81_code 3 (some .int), .methodLink "PraisedFieldsModel" 282 yX7_copies, .privateMethod yX7_copies, .instanceMethod yX7_copies, .code yX7_copies prog_9_method_80_code 4 none, .methodLink "PraisedFieldsLaw" 154 yX7_back, .instanceMethod yX7_back, .selects "PraisedFieldsModel" yX7_back yX7_back, .code yX7_back prog_9_method_82_code 2 (some .int), .methodLink "PraisedFieldsLaw" 158 yX7_sheet, .instanceMethod yX7_sheet, .selects "PraisedFieldsModel" yX7_sheet yX7_sheet, .code yX7_sheet prog_9_method_84_code 5 (some .int), .methodLink "PraisedFieldsModel" 287 yX7_isSheet, .static yX7_isSheet, .code yX7_isSheet prog_9_method_83_code 2 (some .boolean), .constantLong "PraisedFieldsModel" 285 2, .methodLink "PraisedFieldsLaw" 162 yX7_lay, .instanceMethod yX7_lay, .selects "PraisedFieldsModel" yX7_lay yX7_lay, .code yX7_lay prog_9_method_85_code 4 (some .int), .methodLink "PraisedFieldsLaw" 167 yX7_read] : List Cond) = ((tables_1_5).drop 192).take 32 := rfl
  rw [h1] at h
  have h4 := List.mem_of_mem_drop (List.mem_of_mem_take h)
  exact List.mem_filter.mpr ⟨List.mem_append_right _ (List.mem_append_right _ (List.mem_append_right _ (List.mem_append_right _ (List.mem_append_right _ (h4))))), h3⟩
theorem zg_5_7 : ∀ w ∈ ([.instanceMethod yX7_read, .selects "PraisedFieldsModel" yX7_read yX7_read, .code yX7_read prog_9_method_86_code 11 (some .int), .methodLink "PraisedFieldsModel" 290 yX7_march, .methodLink "PraisedFieldsLaw" 171 yX7_torn, .instanceMethod yX7_torn, .selects "PraisedFieldsModel" yX7_torn yX7_torn, .code yX7_torn prog_9_method_87_code 1 (some .int), .methodLink "PraisedFieldsLaw" 175 yX7_count, .instanceMethod yX7_count, .selects "PraisedFieldsModel" yX7_count yX7_count, .code yX7_count prog_9_method_88_code 4 (some .int), .fieldLink "java/lang/String" 9 "java/lang/String" "value" "[B", .fieldLink "java/lang/String" 15 "java/lang/String" "coder" "B"] : List Cond), zok w = true → w ∈ zW := fun w h h3 => by
  have h1 : ([.instanceMethod yX7_read, .selects "PraisedFieldsModel" yX7_read yX7_read, .code yX7_read prog_9_method_86_code 11 (some .int), .methodLink "PraisedFieldsModel" 290 yX7_march, .methodLink "PraisedFieldsLaw" 171 yX7_torn, .instanceMethod yX7_torn, .selects "PraisedFieldsModel" yX7_torn yX7_torn, .code yX7_torn prog_9_method_87_code 1 (some .int), .methodLink "PraisedFieldsLaw" 175 yX7_count, .instanceMethod yX7_count, .selects "PraisedFieldsModel" yX7_count yX7_count, .code yX7_count prog_9_method_88_code 4 (some .int), .fieldLink "java/lang/String" 9 "java/lang/String" "value" "[B", .fieldLink "java/lang/String" 15 "java/lang/String" "coder" "B"] : List Cond) = ((tables_1_5).drop 224).take 32 := rfl
  rw [h1] at h
  have h4 := List.mem_of_mem_drop (List.mem_of_mem_take h)
  exact List.mem_filter.mpr ⟨List.mem_append_right _ (List.mem_append_right _ (List.mem_append_right _ (List.mem_append_right _ (List.mem_append_right _ (h4))))), h3⟩
theorem zinX0 : ∀ w ∈ u_ws RX0 TX0 3, w ∈ zW := by
  show ∀ w ∈ [u_lay RX0 TX0 0, u_lay RX0 TX0 1, u_lay RX0 TX0 2], w ∈ zW
  refine List.forall_mem_cons.mpr ⟨(zg_1_5 _ (List.mem_of_getElem? (i := 31) rfl) rfl), List.forall_mem_cons.mpr ⟨(zg_1_6 _ (List.mem_of_getElem? (i := 1) rfl) rfl), List.forall_mem_cons.mpr ⟨(zg_1_6 _ (List.mem_of_getElem? (i := 3) rfl) rfl), (fun _ h => absurd h List.not_mem_nil)⟩⟩⟩
theorem zinX1 : ∀ w ∈ u_ws RX1 TX1 4, w ∈ zW := by
  show ∀ w ∈ [u_lay RX1 TX1 0, u_lay RX1 TX1 1, u_lay RX1 TX1 2, u_lay RX1 TX1 3], w ∈ zW
  refine List.forall_mem_cons.mpr ⟨(zg_1_5 _ (List.mem_of_getElem? (i := 11) rfl) rfl), List.forall_mem_cons.mpr ⟨(zg_1_5 _ (List.mem_of_getElem? (i := 13) rfl) rfl), List.forall_mem_cons.mpr ⟨(zg_1_5 _ (List.mem_of_getElem? (i := 15) rfl) rfl), List.forall_mem_cons.mpr ⟨(zg_1_5 _ (List.mem_of_getElem? (i := 17) rfl) rfl), (fun _ h => absurd h List.not_mem_nil)⟩⟩⟩⟩
theorem zinX2 : ∀ w ∈ u_ws RX2 TX2 14, w ∈ zW := by
  show ∀ w ∈ [u_lay RX2 TX2 0, u_lay RX2 TX2 1, u_lay RX2 TX2 2, u_lay RX2 TX2 3, u_lay RX2 TX2 4, u_lay RX2 TX2 5, u_lay RX2 TX2 6, u_lay RX2 TX2 7, u_lay RX2 TX2 8, u_lay RX2 TX2 9, u_lay RX2 TX2 10, u_lay RX2 TX2 11, u_lay RX2 TX2 12, u_lay RX2 TX2 13], w ∈ zW
  refine List.forall_mem_cons.mpr ⟨(zg_1_2 _ (List.mem_of_getElem? (i := 0) rfl) rfl), List.forall_mem_cons.mpr ⟨(zg_1_2 _ (List.mem_of_getElem? (i := 2) rfl) rfl), List.forall_mem_cons.mpr ⟨(zg_1_2 _ (List.mem_of_getElem? (i := 4) rfl) rfl), List.forall_mem_cons.mpr ⟨(zg_1_2 _ (List.mem_of_getElem? (i := 6) rfl) rfl), List.forall_mem_cons.mpr ⟨(zg_1_2 _ (List.mem_of_getElem? (i := 8) rfl) rfl), List.forall_mem_cons.mpr ⟨(zg_1_2 _ (List.mem_of_getElem? (i := 10) rfl) rfl), List.forall_mem_cons.mpr ⟨(zg_1_2 _ (List.mem_of_getElem? (i := 12) rfl) rfl), List.forall_mem_cons.mpr ⟨(zg_1_2 _ (List.mem_of_getElem? (i := 14) rfl) rfl), List.forall_mem_cons.mpr ⟨(zg_1_2 _ (List.mem_of_getElem? (i := 16) rfl) rfl), List.forall_mem_cons.mpr ⟨(zg_1_2 _ (List.mem_of_getElem? (i := 18) rfl) rfl), List.forall_mem_cons.mpr ⟨(zg_1_2 _ (List.mem_of_getElem? (i := 20) rfl) rfl), List.forall_mem_cons.mpr ⟨(zg_1_2 _ (List.mem_of_getElem? (i := 22) rfl) rfl), List.forall_mem_cons.mpr ⟨(zg_1_2 _ (List.mem_of_getElem? (i := 24) rfl) rfl), List.forall_mem_cons.mpr ⟨(zg_1_2 _ (List.mem_of_getElem? (i := 26) rfl) rfl), (fun _ h => absurd h List.not_mem_nil)⟩⟩⟩⟩⟩⟩⟩⟩⟩⟩⟩⟩⟩⟩
theorem zinX3 : ∀ w ∈ u_ws RX3 TX3 6, w ∈ zW := by
  show ∀ w ∈ [u_lay RX3 TX3 0, u_lay RX3 TX3 1, u_lay RX3 TX3 2, u_lay RX3 TX3 3, u_lay RX3 TX3 4, u_lay RX3 TX3 5], w ∈ zW
  refine List.forall_mem_cons.mpr ⟨(zg_1_4 _ (List.mem_of_getElem? (i := 20) rfl) rfl), List.forall_mem_cons.mpr ⟨(zg_1_4 _ (List.mem_of_getElem? (i := 22) rfl) rfl), List.forall_mem_cons.mpr ⟨(zg_1_4 _ (List.mem_of_getElem? (i := 24) rfl) rfl), List.forall_mem_cons.mpr ⟨(zg_1_4 _ (List.mem_of_getElem? (i := 26) rfl) rfl), List.forall_mem_cons.mpr ⟨(zg_1_4 _ (List.mem_of_getElem? (i := 28) rfl) rfl), List.forall_mem_cons.mpr ⟨(zg_1_4 _ (List.mem_of_getElem? (i := 30) rfl) rfl), (fun _ h => absurd h List.not_mem_nil)⟩⟩⟩⟩⟩⟩
theorem zinX4 : ∀ w ∈ u_ws RX4 TX4 3, w ∈ zW := by
  show ∀ w ∈ [u_lay RX4 TX4 0, u_lay RX4 TX4 1, u_lay RX4 TX4 2], w ∈ zW
  refine List.forall_mem_cons.mpr ⟨(zg_1_6 _ (List.mem_of_getElem? (i := 17) rfl) rfl), List.forall_mem_cons.mpr ⟨(zg_1_6 _ (List.mem_of_getElem? (i := 19) rfl) rfl), List.forall_mem_cons.mpr ⟨(zg_1_6 _ (List.mem_of_getElem? (i := 21) rfl) rfl), (fun _ h => absurd h List.not_mem_nil)⟩⟩⟩
theorem zinX5 : ∀ w ∈ u_ws RX5 TX5 9, w ∈ zW := by
  show ∀ w ∈ [u_lay RX5 TX5 0, u_lay RX5 TX5 1, u_lay RX5 TX5 2, u_lay RX5 TX5 3, u_lay RX5 TX5 4, u_lay RX5 TX5 5, u_lay RX5 TX5 6, u_lay RX5 TX5 7, u_lay RX5 TX5 8], w ∈ zW
  refine List.forall_mem_cons.mpr ⟨(zg_1_3 _ (List.mem_of_getElem? (i := 17) rfl) rfl), List.forall_mem_cons.mpr ⟨(zg_1_3 _ (List.mem_of_getElem? (i := 19) rfl) rfl), List.forall_mem_cons.mpr ⟨(zg_1_3 _ (List.mem_of_getElem? (i := 21) rfl) rfl), List.forall_mem_cons.mpr ⟨(zg_1_3 _ (List.mem_of_getElem? (i := 23) rfl) rfl), List.forall_mem_cons.mpr ⟨(zg_1_3 _ (List.mem_of_getElem? (i := 25) rfl) rfl), List.forall_mem_cons.mpr ⟨(zg_1_3 _ (List.mem_of_getElem? (i := 27) rfl) rfl), List.forall_mem_cons.mpr ⟨(zg_1_3 _ (List.mem_of_getElem? (i := 29) rfl) rfl), List.forall_mem_cons.mpr ⟨(zg_1_3 _ (List.mem_of_getElem? (i := 31) rfl) rfl), List.forall_mem_cons.mpr ⟨(zg_1_4 _ (List.mem_of_getElem? (i := 1) rfl) rfl), (fun _ h => absurd h List.not_mem_nil)⟩⟩⟩⟩⟩⟩⟩⟩⟩
theorem zinX6 : ∀ w ∈ u_ws RX6 TX6 10, w ∈ zW := by
  show ∀ w ∈ [u_lay RX6 TX6 0, u_lay RX6 TX6 1, u_lay RX6 TX6 2, u_lay RX6 TX6 3, u_lay RX6 TX6 4, u_lay RX6 TX6 5, u_lay RX6 TX6 6, u_lay RX6 TX6 7, u_lay RX6 TX6 8, u_lay RX6 TX6 9], w ∈ zW
  refine List.forall_mem_cons.mpr ⟨(zg_1_7 _ (List.mem_of_getElem? (i := 2) rfl) rfl), List.forall_mem_cons.mpr ⟨(zg_1_7 _ (List.mem_of_getElem? (i := 4) rfl) rfl), List.forall_mem_cons.mpr ⟨(zg_1_7 _ (List.mem_of_getElem? (i := 6) rfl) rfl), List.forall_mem_cons.mpr ⟨(zg_1_7 _ (List.mem_of_getElem? (i := 8) rfl) rfl), List.forall_mem_cons.mpr ⟨(zg_1_7 _ (List.mem_of_getElem? (i := 10) rfl) rfl), List.forall_mem_cons.mpr ⟨(zg_1_7 _ (List.mem_of_getElem? (i := 12) rfl) rfl), List.forall_mem_cons.mpr ⟨(zg_1_7 _ (List.mem_of_getElem? (i := 14) rfl) rfl), List.forall_mem_cons.mpr ⟨(zg_2_0 _ (List.mem_of_getElem? (i := 0) rfl) rfl), List.forall_mem_cons.mpr ⟨(zg_2_0 _ (List.mem_of_getElem? (i := 2) rfl) rfl), List.forall_mem_cons.mpr ⟨(zg_2_0 _ (List.mem_of_getElem? (i := 4) rfl) rfl), (fun _ h => absurd h List.not_mem_nil)⟩⟩⟩⟩⟩⟩⟩⟩⟩⟩
theorem zinX7 : ∀ w ∈ u_ws RX7 TX7 29, w ∈ zW := by
  show ∀ w ∈ [u_lay RX7 TX7 0, u_lay RX7 TX7 1, u_lay RX7 TX7 2, u_lay RX7 TX7 3, u_lay RX7 TX7 4, u_lay RX7 TX7 5, u_lay RX7 TX7 6, u_lay RX7 TX7 7, u_lay RX7 TX7 8, u_lay RX7 TX7 9, u_lay RX7 TX7 10, u_lay RX7 TX7 11, u_lay RX7 TX7 12, u_lay RX7 TX7 13, u_lay RX7 TX7 14, u_lay RX7 TX7 15, u_lay RX7 TX7 16, u_lay RX7 TX7 17, u_lay RX7 TX7 18, u_lay RX7 TX7 19, u_lay RX7 TX7 20, u_lay RX7 TX7 21, u_lay RX7 TX7 22, u_lay RX7 TX7 23, u_lay RX7 TX7 24, u_lay RX7 TX7 25, u_lay RX7 TX7 26, u_lay RX7 TX7 27, u_lay RX7 TX7 28], w ∈ zW
  refine List.forall_mem_cons.mpr ⟨(zg_4_2 _ (List.mem_of_getElem? (i := 7) rfl) rfl), List.forall_mem_cons.mpr ⟨(zg_4_2 _ (List.mem_of_getElem? (i := 9) rfl) rfl), List.forall_mem_cons.mpr ⟨(zg_4_2 _ (List.mem_of_getElem? (i := 11) rfl) rfl), List.forall_mem_cons.mpr ⟨(zg_4_2 _ (List.mem_of_getElem? (i := 13) rfl) rfl), List.forall_mem_cons.mpr ⟨(zg_4_2 _ (List.mem_of_getElem? (i := 15) rfl) rfl), List.forall_mem_cons.mpr ⟨(zg_4_2 _ (List.mem_of_getElem? (i := 17) rfl) rfl), List.forall_mem_cons.mpr ⟨(zg_4_2 _ (List.mem_of_getElem? (i := 19) rfl) rfl), List.forall_mem_cons.mpr ⟨(zg_4_2 _ (List.mem_of_getElem? (i := 21) rfl) rfl), List.forall_mem_cons.mpr ⟨(zg_4_2 _ (List.mem_of_getElem? (i := 23) rfl) rfl), List.forall_mem_cons.mpr ⟨(zg_4_2 _ (List.mem_of_getElem? (i := 25) rfl) rfl), List.forall_mem_cons.mpr ⟨(zg_4_2 _ (List.mem_of_getElem? (i := 27) rfl) rfl), List.forall_mem_cons.mpr ⟨(zg_4_2 _ (List.mem_of_getElem? (i := 29) rfl) rfl), List.forall_mem_cons.mpr ⟨(zg_4_2 _ (List.mem_of_getElem? (i := 31) rfl) rfl), List.forall_mem_cons.mpr ⟨(zg_4_3 _ (List.mem_of_getElem? (i := 1) rfl) rfl), List.forall_mem_cons.mpr ⟨(zg_4_3 _ (List.mem_of_getElem? (i := 3) rfl) rfl), List.forall_mem_cons.mpr ⟨(zg_4_3 _ (List.mem_of_getElem? (i := 5) rfl) rfl), List.forall_mem_cons.mpr ⟨(zg_4_3 _ (List.mem_of_getElem? (i := 7) rfl) rfl), List.forall_mem_cons.mpr ⟨(zg_4_3 _ (List.mem_of_getElem? (i := 9) rfl) rfl), List.forall_mem_cons.mpr ⟨(zg_4_3 _ (List.mem_of_getElem? (i := 11) rfl) rfl), List.forall_mem_cons.mpr ⟨(zg_4_3 _ (List.mem_of_getElem? (i := 13) rfl) rfl), List.forall_mem_cons.mpr ⟨(zg_4_3 _ (List.mem_of_getElem? (i := 15) rfl) rfl), List.forall_mem_cons.mpr ⟨(zg_4_3 _ (List.mem_of_getElem? (i := 17) rfl) rfl), List.forall_mem_cons.mpr ⟨(zg_4_3 _ (List.mem_of_getElem? (i := 19) rfl) rfl), List.forall_mem_cons.mpr ⟨(zg_4_3 _ (List.mem_of_getElem? (i := 21) rfl) rfl), List.forall_mem_cons.mpr ⟨(zg_4_3 _ (List.mem_of_getElem? (i := 23) rfl) rfl), List.forall_mem_cons.mpr ⟨(zg_4_3 _ (List.mem_of_getElem? (i := 25) rfl) rfl), List.forall_mem_cons.mpr ⟨(zg_4_3 _ (List.mem_of_getElem? (i := 27) rfl) rfl), List.forall_mem_cons.mpr ⟨(zg_4_3 _ (List.mem_of_getElem? (i := 29) rfl) rfl), List.forall_mem_cons.mpr ⟨(zg_4_3 _ (List.mem_of_getElem? (i := 31) rfl) rfl), (fun _ h => absurd h List.not_mem_nil)⟩⟩⟩⟩⟩⟩⟩⟩⟩⟩⟩⟩⟩⟩⟩⟩⟩⟩⟩⟩⟩⟩⟩⟩⟩⟩⟩⟩⟩
def zC (ci : Nat) : vw_C := vwCl.getD ci (RX7, TX7, 29)
def zty (ci j : Nat) : FieldType := match ci with
  | 0 => tyX0 j
  | 1 => tyX1 j
  | 2 => tyX2 j
  | 3 => tyX3 j
  | 4 => tyX4 j
  | 5 => tyX5 j
  | 6 => tyX6 j
  | _ => tyX7 j
def zFL (own : String) (idx ci j : Nat) : Prop := Cond.fieldLink own idx ((zC ci).2.1 j).1 ((zC ci).2.1 j).2.1 ((zC ci).2.1 j).2.2.1 ∈ zW
theorem zhin : ∀ ci, ci < 8 → ∀ w ∈ u_ws (zC ci).1 (zC ci).2.1 (zC ci).2.2, w ∈ zW := fun ci h => match ci, h with
  | 0, _ => zinX0
  | 1, _ => zinX1
  | 2, _ => zinX2
  | 3, _ => zinX3
  | 4, _ => zinX4
  | 5, _ => zinX5
  | 6, _ => zinX6
  | 7, _ => zinX7
  | n + 8, h => absurd h (by omega)
theorem zhty : ∀ ci, ci < 8 → ∀ k, k < (zC ci).2.2 → parseFieldDescriptor ((zC ci).2.1 k).2.2.1 = some (zty ci k) := fun ci h => match ci, h with
  | 0, _ => tyX0_ok
  | 1, _ => tyX1_ok
  | 2, _ => tyX2_ok
  | 3, _ => tyX3_ok
  | 4, _ => tyX4_ok
  | 5, _ => tyX5_ok
  | 6, _ => tyX6_ok
  | 7, _ => tyX7_ok
  | n + 8, h => absurd h (by omega)
theorem zhnm : ∀ ci, ci < 8 → ∀ a, a < (zC ci).2.2 → ∀ b, b < (zC ci).2.2 → a ≠ b → ((zC ci).2.1 a).2.1 ≠ ((zC ci).2.1 b).2.1 := fun ci h => match ci, h with
  | 0, _ => nmX0
  | 1, _ => nmX1
  | 2, _ => nmX2
  | 3, _ => nmX3
  | 4, _ => nmX4
  | 5, _ => nmX5
  | 6, _ => nmX6
  | 7, _ => nmX7
  | n + 8, h => absurd h (by omega)
theorem zhcl : ∀ ci, ci < 8 → vwCl[ci]? = some (zC ci) := fun ci h => match ci, h with
  | 0, _ => rfl
  | 1, _ => rfl
  | 2, _ => rfl
  | 3, _ => rfl
  | 4, _ => rfl
  | 5, _ => rfl
  | 6, _ => rfl
  | 7, _ => rfl
  | n + 8, h => absurd h (by omega)
theorem ini_X6 : Cond.initialized RX6 ∈ zW := (zg_1_0 _ (List.mem_of_getElem? (i := 1) rfl) rfl)
theorem ini_X0 : Cond.initialized RX0 ∈ zW := (zg_1_0 _ (List.mem_of_getElem? (i := 6) rfl) rfl)
theorem ini_X1 : Cond.initialized RX1 ∈ zW := (zg_1_0 _ (List.mem_of_getElem? (i := 5) rfl) rfl)
theorem ini_X2 : Cond.initialized RX2 ∈ zW := (zg_1_0 _ (List.mem_of_getElem? (i := 2) rfl) rfl)
theorem ini_X3 : Cond.initialized RX3 ∈ zW := (zg_1_0 _ (List.mem_of_getElem? (i := 4) rfl) rfl)
theorem ini_X4 : Cond.initialized RX4 ∈ zW := (zg_1_0 _ (List.mem_of_getElem? (i := 7) rfl) rfl)
theorem ini_X5 : Cond.initialized RX5 ∈ zW := (zg_1_0 _ (List.mem_of_getElem? (i := 3) rfl) rfl)
theorem ini_L : Cond.initialized RL ∈ zW := (zg_1_0 _ (List.mem_of_getElem? (i := 0) rfl) rfl)
theorem ini_X7 : Cond.initialized RX7 ∈ zW := (zg_1_0 _ (List.mem_of_getElem? (i := 8) rfl) rfl)
theorem ini_J9 : Cond.initialized RJ9 ∈ zW := (zg_1_0 _ (List.mem_of_getElem? (i := 9) rfl) rfl)
theorem ini_J0 : Cond.initialized RJ0 ∈ zW := (zg_1_0 _ (List.mem_of_getElem? (i := 10) rfl) rfl)
theorem ini_J1 : Cond.initialized RJ1 ∈ zW := (zg_1_0 _ (List.mem_of_getElem? (i := 11) rfl) rfl)
theorem ini_J2 : Cond.initialized RJ2 ∈ zW := (zg_1_0 _ (List.mem_of_getElem? (i := 13) rfl) rfl)
theorem ini_J10 : Cond.initialized RJ10 ∈ zW := (zg_1_0 _ (List.mem_of_getElem? (i := 14) rfl) rfl)
theorem ini_J3 : Cond.initialized RJ3 ∈ zW := (zg_1_0 _ (List.mem_of_getElem? (i := 12) rfl) rfl)
theorem fl_X2_9 : zFL RX2 9 2 0 := (zg_1_0 _ (List.mem_of_getElem? (i := 29) rfl) rfl)
theorem fl_X1_38 : zFL RX1 38 2 0 := (zg_1_0 _ (List.mem_of_getElem? (i := 30) rfl) rfl)
theorem fl_X6_120 : zFL RX6 120 2 0 := (zg_1_0 _ (List.mem_of_getElem? (i := 31) rfl) rfl)
theorem fl_X2_15 : zFL RX2 15 2 1 := (zg_1_1 _ (List.mem_of_getElem? (i := 0) rfl) rfl)
theorem fl_X1_32 : zFL RX1 32 2 1 := (zg_1_1 _ (List.mem_of_getElem? (i := 1) rfl) rfl)
theorem fl_X6_124 : zFL RX6 124 2 1 := (zg_1_1 _ (List.mem_of_getElem? (i := 2) rfl) rfl)
theorem fl_X2_18 : zFL RX2 18 2 2 := (zg_1_1 _ (List.mem_of_getElem? (i := 3) rfl) rfl)
theorem fl_X1_33 : zFL RX1 33 2 2 := (zg_1_1 _ (List.mem_of_getElem? (i := 4) rfl) rfl)
theorem fl_X6_127 : zFL RX6 127 2 2 := (zg_1_1 _ (List.mem_of_getElem? (i := 5) rfl) rfl)
theorem fl_X2_21 : zFL RX2 21 2 3 := (zg_1_1 _ (List.mem_of_getElem? (i := 6) rfl) rfl)
theorem fl_X5_56 : zFL RX5 56 2 3 := (zg_1_1 _ (List.mem_of_getElem? (i := 7) rfl) rfl)
theorem fl_X6_140 : zFL RX6 140 2 3 := (zg_1_1 _ (List.mem_of_getElem? (i := 8) rfl) rfl)
theorem fl_X2_24 : zFL RX2 24 2 4 := (zg_1_1 _ (List.mem_of_getElem? (i := 9) rfl) rfl)
theorem fl_X3_55 : zFL RX3 55 2 4 := (zg_1_1 _ (List.mem_of_getElem? (i := 10) rfl) rfl)
theorem fl_X6_143 : zFL RX6 143 2 4 := (zg_1_1 _ (List.mem_of_getElem? (i := 11) rfl) rfl)
theorem fl_X2_27 : zFL RX2 27 2 5 := (zg_1_1 _ (List.mem_of_getElem? (i := 12) rfl) rfl)
theorem fl_X2_30 : zFL RX2 30 2 6 := (zg_1_1 _ (List.mem_of_getElem? (i := 13) rfl) rfl)
theorem fl_X2_33 : zFL RX2 33 2 7 := (zg_1_1 _ (List.mem_of_getElem? (i := 14) rfl) rfl)
theorem fl_X2_36 : zFL RX2 36 2 8 := (zg_1_1 _ (List.mem_of_getElem? (i := 15) rfl) rfl)
theorem fl_X3_43 : zFL RX3 43 2 8 := (zg_1_1 _ (List.mem_of_getElem? (i := 16) rfl) rfl)
theorem fl_X5_60 : zFL RX5 60 2 8 := (zg_1_1 _ (List.mem_of_getElem? (i := 17) rfl) rfl)
theorem fl_X6_91 : zFL RX6 91 2 8 := (zg_1_1 _ (List.mem_of_getElem? (i := 18) rfl) rfl)
theorem fl_X2_40 : zFL RX2 40 2 9 := (zg_1_1 _ (List.mem_of_getElem? (i := 19) rfl) rfl)
theorem fl_X3_38 : zFL RX3 38 2 9 := (zg_1_1 _ (List.mem_of_getElem? (i := 20) rfl) rfl)
theorem fl_X5_53 : zFL RX5 53 2 9 := (zg_1_1 _ (List.mem_of_getElem? (i := 21) rfl) rfl)
theorem fl_X6_94 : zFL RX6 94 2 9 := (zg_1_1 _ (List.mem_of_getElem? (i := 22) rfl) rfl)
theorem fl_X2_43 : zFL RX2 43 2 10 := (zg_1_1 _ (List.mem_of_getElem? (i := 23) rfl) rfl)
theorem fl_X6_225 : zFL RX6 225 2 10 := (zg_1_1 _ (List.mem_of_getElem? (i := 24) rfl) rfl)
theorem fl_X2_46 : zFL RX2 46 2 11 := (zg_1_1 _ (List.mem_of_getElem? (i := 25) rfl) rfl)
theorem fl_X6_107 : zFL RX6 107 2 11 := (zg_1_1 _ (List.mem_of_getElem? (i := 26) rfl) rfl)
theorem fl_X5_99 : zFL RX5 99 2 11 := (zg_1_1 _ (List.mem_of_getElem? (i := 27) rfl) rfl)
theorem fl_X2_49 : zFL RX2 49 2 12 := (zg_1_1 _ (List.mem_of_getElem? (i := 28) rfl) rfl)
theorem fl_X6_100 : zFL RX6 100 2 12 := (zg_1_1 _ (List.mem_of_getElem? (i := 29) rfl) rfl)
theorem fl_X2_52 : zFL RX2 52 2 13 := (zg_1_1 _ (List.mem_of_getElem? (i := 30) rfl) rfl)
theorem fl_X6_97 : zFL RX6 97 2 13 := (zg_1_1 _ (List.mem_of_getElem? (i := 31) rfl) rfl)
theorem fl_X5_11 : zFL RX5 11 5 0 := (zg_1_3 _ (List.mem_of_getElem? (i := 5) rfl) rfl)
theorem fl_X5_15 : zFL RX5 15 5 1 := (zg_1_3 _ (List.mem_of_getElem? (i := 6) rfl) rfl)
theorem fl_X6_74 : zFL RX6 74 5 1 := (zg_1_3 _ (List.mem_of_getElem? (i := 7) rfl) rfl)
theorem fl_X5_19 : zFL RX5 19 5 2 := (zg_1_3 _ (List.mem_of_getElem? (i := 8) rfl) rfl)
theorem fl_X6_88 : zFL RX6 88 5 2 := (zg_1_3 _ (List.mem_of_getElem? (i := 9) rfl) rfl)
theorem fl_X5_22 : zFL RX5 22 5 3 := (zg_1_3 _ (List.mem_of_getElem? (i := 10) rfl) rfl)
theorem fl_X6_81 : zFL RX6 81 5 3 := (zg_1_3 _ (List.mem_of_getElem? (i := 11) rfl) rfl)
theorem fl_X5_25 : zFL RX5 25 5 4 := (zg_1_3 _ (List.mem_of_getElem? (i := 12) rfl) rfl)
theorem fl_X5_28 : zFL RX5 28 5 5 := (zg_1_3 _ (List.mem_of_getElem? (i := 13) rfl) rfl)
theorem fl_X5_31 : zFL RX5 31 5 6 := (zg_1_3 _ (List.mem_of_getElem? (i := 14) rfl) rfl)
theorem fl_X5_34 : zFL RX5 34 5 7 := (zg_1_3 _ (List.mem_of_getElem? (i := 15) rfl) rfl)
theorem fl_X5_37 : zFL RX5 37 5 8 := (zg_1_3 _ (List.mem_of_getElem? (i := 16) rfl) rfl)
theorem fl_X3_11 : zFL RX3 11 3 0 := (zg_1_4 _ (List.mem_of_getElem? (i := 12) rfl) rfl)
theorem fl_X3_15 : zFL RX3 15 3 1 := (zg_1_4 _ (List.mem_of_getElem? (i := 13) rfl) rfl)
theorem fl_X3_18 : zFL RX3 18 3 2 := (zg_1_4 _ (List.mem_of_getElem? (i := 14) rfl) rfl)
theorem fl_X3_21 : zFL RX3 21 3 3 := (zg_1_4 _ (List.mem_of_getElem? (i := 15) rfl) rfl)
theorem fl_X6_183 : zFL RX6 183 3 3 := (zg_1_4 _ (List.mem_of_getElem? (i := 16) rfl) rfl)
theorem fl_X3_24 : zFL RX3 24 3 4 := (zg_1_4 _ (List.mem_of_getElem? (i := 17) rfl) rfl)
theorem fl_X3_28 : zFL RX3 28 3 5 := (zg_1_4 _ (List.mem_of_getElem? (i := 18) rfl) rfl)
theorem fl_X6_180 : zFL RX6 180 3 5 := (zg_1_4 _ (List.mem_of_getElem? (i := 19) rfl) rfl)
theorem fl_X1_11 : zFL RX1 11 1 0 := (zg_1_5 _ (List.mem_of_getElem? (i := 7) rfl) rfl)
theorem fl_X1_15 : zFL RX1 15 1 1 := (zg_1_5 _ (List.mem_of_getElem? (i := 8) rfl) rfl)
theorem fl_X1_18 : zFL RX1 18 1 2 := (zg_1_5 _ (List.mem_of_getElem? (i := 9) rfl) rfl)
theorem fl_X1_22 : zFL RX1 22 1 3 := (zg_1_5 _ (List.mem_of_getElem? (i := 10) rfl) rfl)
theorem fl_X0_9 : zFL RX0 9 0 0 := (zg_1_5 _ (List.mem_of_getElem? (i := 27) rfl) rfl)
theorem fl_X0_15 : zFL RX0 15 0 1 := (zg_1_5 _ (List.mem_of_getElem? (i := 28) rfl) rfl)
theorem fl_X0_18 : zFL RX0 18 0 2 := (zg_1_5 _ (List.mem_of_getElem? (i := 29) rfl) rfl)
theorem fl_X6_238 : zFL RX6 238 0 2 := (zg_1_5 _ (List.mem_of_getElem? (i := 30) rfl) rfl)
theorem fl_X4_9 : zFL RX4 9 4 0 := (zg_1_6 _ (List.mem_of_getElem? (i := 12) rfl) rfl)
theorem fl_X4_15 : zFL RX4 15 4 1 := (zg_1_6 _ (List.mem_of_getElem? (i := 13) rfl) rfl)
theorem fl_X6_254 : zFL RX6 254 4 1 := (zg_1_6 _ (List.mem_of_getElem? (i := 14) rfl) rfl)
theorem fl_X4_18 : zFL RX4 18 4 2 := (zg_1_6 _ (List.mem_of_getElem? (i := 15) rfl) rfl)
theorem fl_X6_272 : zFL RX6 272 4 2 := (zg_1_6 _ (List.mem_of_getElem? (i := 16) rfl) rfl)
theorem fl_X6_10 : zFL RX6 10 6 0 := (zg_1_6 _ (List.mem_of_getElem? (i := 24) rfl) rfl)
theorem fl_X6_16 : zFL RX6 16 6 1 := (zg_1_6 _ (List.mem_of_getElem? (i := 25) rfl) rfl)
theorem fl_X6_19 : zFL RX6 19 6 2 := (zg_1_6 _ (List.mem_of_getElem? (i := 26) rfl) rfl)
theorem fl_X6_23 : zFL RX6 23 6 3 := (zg_1_6 _ (List.mem_of_getElem? (i := 27) rfl) rfl)
theorem fl_X6_30 : zFL RX6 30 6 4 := (zg_1_6 _ (List.mem_of_getElem? (i := 28) rfl) rfl)
theorem fl_X6_37 : zFL RX6 37 6 5 := (zg_1_6 _ (List.mem_of_getElem? (i := 29) rfl) rfl)
theorem fl_X6_44 : zFL RX6 44 6 6 := (zg_1_6 _ (List.mem_of_getElem? (i := 30) rfl) rfl)
theorem fl_X6_51 : zFL RX6 51 6 7 := (zg_1_6 _ (List.mem_of_getElem? (i := 31) rfl) rfl)
theorem fl_X6_58 : zFL RX6 58 6 8 := (zg_1_7 _ (List.mem_of_getElem? (i := 0) rfl) rfl)
theorem fl_X6_62 : zFL RX6 62 6 9 := (zg_1_7 _ (List.mem_of_getElem? (i := 1) rfl) rfl)
theorem fl_X7_7 : zFL RX7 7 7 0 := (zg_4_1 _ (List.mem_of_getElem? (i := 10) rfl) rfl)
theorem fl_X7_13 : zFL RX7 13 7 1 := (zg_4_1 _ (List.mem_of_getElem? (i := 11) rfl) rfl)
theorem fl_X7_16 : zFL RX7 16 7 2 := (zg_4_1 _ (List.mem_of_getElem? (i := 12) rfl) rfl)
theorem fl_X7_20 : zFL RX7 20 7 3 := (zg_4_1 _ (List.mem_of_getElem? (i := 13) rfl) rfl)
theorem fl_X7_53 : zFL RX7 53 7 4 := (zg_4_1 _ (List.mem_of_getElem? (i := 14) rfl) rfl)
theorem fl_X7_57 : zFL RX7 57 7 5 := (zg_4_1 _ (List.mem_of_getElem? (i := 15) rfl) rfl)
theorem fl_X7_23 : zFL RX7 23 7 6 := (zg_4_1 _ (List.mem_of_getElem? (i := 16) rfl) rfl)
theorem fl_X7_67 : zFL RX7 67 7 7 := (zg_4_1 _ (List.mem_of_getElem? (i := 17) rfl) rfl)
theorem fl_X7_79 : zFL RX7 79 7 8 := (zg_4_1 _ (List.mem_of_getElem? (i := 18) rfl) rfl)
theorem fl_X7_73 : zFL RX7 73 7 9 := (zg_4_1 _ (List.mem_of_getElem? (i := 19) rfl) rfl)
theorem fl_X7_94 : zFL RX7 94 7 10 := (zg_4_1 _ (List.mem_of_getElem? (i := 20) rfl) rfl)
theorem fl_X7_105 : zFL RX7 105 7 11 := (zg_4_1 _ (List.mem_of_getElem? (i := 21) rfl) rfl)
theorem fl_X7_70 : zFL RX7 70 7 12 := (zg_4_1 _ (List.mem_of_getElem? (i := 22) rfl) rfl)
theorem fl_X7_76 : zFL RX7 76 7 13 := (zg_4_1 _ (List.mem_of_getElem? (i := 23) rfl) rfl)
theorem fl_X7_135 : zFL RX7 135 7 14 := (zg_4_1 _ (List.mem_of_getElem? (i := 24) rfl) rfl)
theorem fl_X7_138 : zFL RX7 138 7 15 := (zg_4_1 _ (List.mem_of_getElem? (i := 25) rfl) rfl)
theorem fl_X7_221 : zFL RX7 221 7 16 := (zg_4_1 _ (List.mem_of_getElem? (i := 26) rfl) rfl)
theorem fl_X7_224 : zFL RX7 224 7 17 := (zg_4_1 _ (List.mem_of_getElem? (i := 27) rfl) rfl)
theorem fl_X7_26 : zFL RX7 26 7 18 := (zg_4_1 _ (List.mem_of_getElem? (i := 28) rfl) rfl)
theorem fl_X7_251 : zFL RX7 251 7 19 := (zg_4_1 _ (List.mem_of_getElem? (i := 29) rfl) rfl)
theorem fl_X7_255 : zFL RX7 255 7 20 := (zg_4_1 _ (List.mem_of_getElem? (i := 30) rfl) rfl)
theorem fl_X7_258 : zFL RX7 258 7 21 := (zg_4_1 _ (List.mem_of_getElem? (i := 31) rfl) rfl)
theorem fl_X7_29 : zFL RX7 29 7 22 := (zg_4_2 _ (List.mem_of_getElem? (i := 0) rfl) rfl)
theorem fl_X7_32 : zFL RX7 32 7 23 := (zg_4_2 _ (List.mem_of_getElem? (i := 1) rfl) rfl)
theorem fl_X7_35 : zFL RX7 35 7 24 := (zg_4_2 _ (List.mem_of_getElem? (i := 2) rfl) rfl)
theorem fl_X7_38 : zFL RX7 38 7 25 := (zg_4_2 _ (List.mem_of_getElem? (i := 3) rfl) rfl)
theorem fl_X7_41 : zFL RX7 41 7 26 := (zg_4_2 _ (List.mem_of_getElem? (i := 4) rfl) rfl)
theorem fl_X7_293 : zFL RX7 293 7 27 := (zg_4_2 _ (List.mem_of_getElem? (i := 5) rfl) rfl)
theorem fl_X7_44 : zFL RX7 44 7 28 := (zg_4_2 _ (List.mem_of_getElem? (i := 6) rfl) rfl)
theorem kl_X6_199 : Cond.constantLong RX6 199 (-1) ∈ zW := (zg_3_3 _ (List.mem_of_getElem? (i := 25) rfl) rfl)
theorem kl_X6_220 : Cond.constantLong RX6 220 (10) ∈ zW := (zg_3_4 _ (List.mem_of_getElem? (i := 17) rfl) rfl)
theorem kc_X6_247 : Cond.constant RX6 247 (1103515245) ∈ zW := (zg_3_6 _ (List.mem_of_getElem? (i := 16) rfl) rfl)
theorem kl_X7_61 : Cond.constantLong RX7 61 (127) ∈ zW := (zg_4_4 _ (List.mem_of_getElem? (i := 6) rfl) rfl)
theorem kl_X7_97 : Cond.constantLong RX7 97 (97) ∈ zW := (zg_4_4 _ (List.mem_of_getElem? (i := 26) rfl) rfl)
theorem kl_X7_99 : Cond.constantLong RX7 99 (122) ∈ zW := (zg_4_4 _ (List.mem_of_getElem? (i := 27) rfl) rfl)
theorem kl_X7_101 : Cond.constantLong RX7 101 (48) ∈ zW := (zg_4_4 _ (List.mem_of_getElem? (i := 28) rfl) rfl)
theorem kl_X7_103 : Cond.constantLong RX7 103 (57) ∈ zW := (zg_4_4 _ (List.mem_of_getElem? (i := 29) rfl) rfl)
theorem kl_X7_193 : Cond.constantLong RX7 193 (3) ∈ zW := (zg_5_0 _ (List.mem_of_getElem? (i := 12) rfl) rfl)
theorem kl_X7_133 : Cond.constantLong RX7 133 (99) ∈ zW := (zg_5_0 _ (List.mem_of_getElem? (i := 16) rfl) rfl)
theorem kl_X7_198 : Cond.constantLong RX7 198 (9) ∈ zW := (zg_5_0 _ (List.mem_of_getElem? (i := 17) rfl) rfl)
theorem kl_X7_203 : Cond.constantLong RX7 203 (30) ∈ zW := (zg_5_1 _ (List.mem_of_getElem? (i := 14) rfl) rfl)
theorem kl_X7_211 : Cond.constantLong RX7 211 (60) ∈ zW := (zg_5_2 _ (List.mem_of_getElem? (i := 17) rfl) rfl)
theorem kl_X7_216 : Cond.constantLong RX7 216 (4) ∈ zW := (zg_5_2 _ (List.mem_of_getElem? (i := 18) rfl) rfl)
theorem kl_X7_237 : Cond.constantLong RX7 237 (10) ∈ zW := (zg_5_3 _ (List.mem_of_getElem? (i := 3) rfl) rfl)
theorem kl_X7_239 : Cond.constantLong RX7 239 (13) ∈ zW := (zg_5_3 _ (List.mem_of_getElem? (i := 4) rfl) rfl)
theorem kl_X7_261 : Cond.constantLong RX7 261 (8) ∈ zW := (zg_5_4 _ (List.mem_of_getElem? (i := 21) rfl) rfl)
theorem kl_X7_263 : Cond.constantLong RX7 263 (-1) ∈ zW := (zg_5_4 _ (List.mem_of_getElem? (i := 22) rfl) rfl)
theorem kl_X7_273 : Cond.constantLong RX7 273 (20) ∈ zW := (zg_5_5 _ (List.mem_of_getElem? (i := 9) rfl) rfl)
theorem kc_X7_281 : Cond.constant RX7 281 (1103515245) ∈ zW := (zg_5_6 _ (List.mem_of_getElem? (i := 6) rfl) rfl)
theorem kl_X7_285 : Cond.constantLong RX7 285 (2) ∈ zW := (zg_5_6 _ (List.mem_of_getElem? (i := 26) rfl) rfl)
def zCW (M : ZM) (n : Nat) : Prop := Cond.code M.1 M.2.1 M.2.2.1 M.2.2.2 ∈ zW ∧ Cond.initialized M.1.cls ∈ zW ∧ (M.1.cls ≠ "java/lang/invoke/MethodHandle" ∧ M.1.cls ≠ "java/lang/invoke/VarHandle" ∧ (parseMethodDescriptor M.1.desc).map (fun d => d.parameters.length) = some n) ∧ M.2.2.1 ≤ 17 ∧ plainName M.1.cls = true
def zIW (M : ZM) : Prop := Cond.instanceMethod M.1 ∈ zW ∧ Cond.selects M.1.cls M.1 M.1 ∈ zW
def zSW (M : ZM) : Prop := Cond.static M.1 ∈ zW
def zML (own : String) (idx : Nat) (M : ZM) : Prop := Cond.methodLink own idx M.1 ∈ zW
def zMN (own : String) (idx : Nat) (M : ZM) (host : String) : Prop := Cond.methodLinkNest own idx M.1 host ∈ zW
theorem cw_X0_init : zCW mX0_init 0 := ⟨(zg_1_5 _ (List.mem_of_getElem? (i := 25) rfl) rfl), ini_X0, by decide +kernel, by decide, by decide +kernel⟩
theorem ii_X0_init : Cond.instanceMethod mX0_init.1 ∈ zW := (zg_1_5 _ (List.mem_of_getElem? (i := 24) rfl) rfl)
theorem cw_X0_begin : zCW mX0_begin 2 := ⟨(zg_3_6 _ (List.mem_of_getElem? (i := 0) rfl) rfl), ini_X0, by decide +kernel, by decide, by decide +kernel⟩
theorem iw_X0_begin : zIW mX0_begin := ⟨(zg_3_5 _ (List.mem_of_getElem? (i := 30) rfl) rfl), (zg_3_5 _ (List.mem_of_getElem? (i := 31) rfl) rfl)⟩
theorem cw_X0_passWeek : zCW mX0_passWeek 2 := ⟨(zg_3_6 _ (List.mem_of_getElem? (i := 9) rfl) rfl), ini_X0, by decide +kernel, by decide, by decide +kernel⟩
theorem iw_X0_passWeek : zIW mX0_passWeek := ⟨(zg_3_6 _ (List.mem_of_getElem? (i := 7) rfl) rfl), (zg_3_6 _ (List.mem_of_getElem? (i := 8) rfl) rfl)⟩
theorem cw_X0_largestGroup : zCW mX0_largestGroup 0 := ⟨(zg_3_6 _ (List.mem_of_getElem? (i := 4) rfl) rfl), ini_X0, by decide +kernel, by decide, by decide +kernel⟩
theorem iw_X0_largestGroup : zIW mX0_largestGroup := ⟨(zg_3_6 _ (List.mem_of_getElem? (i := 2) rfl) rfl), (zg_3_6 _ (List.mem_of_getElem? (i := 3) rfl) rfl)⟩
theorem cw_X1_init : zCW mX1_init 0 := ⟨(zg_1_5 _ (List.mem_of_getElem? (i := 5) rfl) rfl), ini_X1, by decide +kernel, by decide, by decide +kernel⟩
theorem ii_X1_init : Cond.instanceMethod mX1_init.1 ∈ zW := (zg_1_5 _ (List.mem_of_getElem? (i := 4) rfl) rfl)
theorem cw_X1_fallOn : zCW mX1_fallOn 4 := ⟨(zg_3_3 _ (List.mem_of_getElem? (i := 29) rfl) rfl), ini_X1, by decide +kernel, by decide, by decide +kernel⟩
theorem iw_X1_fallOn : zIW mX1_fallOn := ⟨(zg_3_3 _ (List.mem_of_getElem? (i := 27) rfl) rfl), (zg_3_3 _ (List.mem_of_getElem? (i := 28) rfl) rfl)⟩
theorem cw_X1_part : zCW mX1_part 1 := ⟨(zg_3_4 _ (List.mem_of_getElem? (i := 2) rfl) rfl), ini_X1, by decide +kernel, by decide, by decide +kernel⟩
theorem iw_X1_part : zIW mX1_part := ⟨(zg_3_4 _ (List.mem_of_getElem? (i := 1) rfl) rfl), (zg_s_0 _ (List.mem_of_getElem? (i := 21) rfl) rfl)⟩
theorem cw_X1_passWeek : zCW mX1_passWeek 2 := ⟨(zg_3_4 _ (List.mem_of_getElem? (i := 7) rfl) rfl), ini_X1, by decide +kernel, by decide, by decide +kernel⟩
theorem iw_X1_passWeek : zIW mX1_passWeek := ⟨(zg_3_4 _ (List.mem_of_getElem? (i := 6) rfl) rfl), (zg_s_0 _ (List.mem_of_getElem? (i := 22) rfl) rfl)⟩
theorem cw_X1_weightOf : zCW mX1_weightOf 1 := ⟨(zg_3_4 _ (List.mem_of_getElem? (i := 13) rfl) rfl), ini_X1, by decide +kernel, by decide, by decide +kernel⟩
theorem iw_X1_weightOf : zIW mX1_weightOf := ⟨(zg_3_4 _ (List.mem_of_getElem? (i := 11) rfl) rfl), (zg_3_4 _ (List.mem_of_getElem? (i := 12) rfl) rfl)⟩
theorem cw_X1_weighedEars : zCW mX1_weighedEars 0 := ⟨(zg_3_4 _ (List.mem_of_getElem? (i := 28) rfl) rfl), ini_X1, by decide +kernel, by decide, by decide +kernel⟩
theorem iw_X1_weighedEars : zIW mX1_weighedEars := ⟨(zg_3_4 _ (List.mem_of_getElem? (i := 26) rfl) rfl), (zg_3_4 _ (List.mem_of_getElem? (i := 27) rfl) rfl)⟩
theorem cw_X2_init : zCW mX2_init 0 := ⟨(zg_1_0 _ (List.mem_of_getElem? (i := 27) rfl) rfl), ini_X2, by decide +kernel, by decide, by decide +kernel⟩
theorem ii_X2_init : Cond.instanceMethod mX2_init.1 ∈ zW := (zg_1_0 _ (List.mem_of_getElem? (i := 26) rfl) rfl)
theorem cw_X2_clear : zCW mX2_clear 0 := ⟨(zg_2_1 _ (List.mem_of_getElem? (i := 1) rfl) rfl), ini_X2, by decide +kernel, by decide, by decide +kernel⟩
theorem iw_X2_clear : zIW mX2_clear := ⟨(zg_2_0 _ (List.mem_of_getElem? (i := 31) rfl) rfl), (zg_2_1 _ (List.mem_of_getElem? (i := 0) rfl) rfl)⟩
theorem cw_X2_copyFrom : zCW mX2_copyFrom 1 := ⟨(zg_2_4 _ (List.mem_of_getElem? (i := 27) rfl) rfl), ini_X2, by decide +kernel, by decide, by decide +kernel⟩
theorem iw_X2_copyFrom : zIW mX2_copyFrom := ⟨(zg_2_4 _ (List.mem_of_getElem? (i := 25) rfl) rfl), (zg_2_4 _ (List.mem_of_getElem? (i := 26) rfl) rfl)⟩
theorem cw_X2_addField : zCW mX2_addField 3 := ⟨(zg_2_4 _ (List.mem_of_getElem? (i := 23) rfl) rfl), ini_X2, by decide +kernel, by decide, by decide +kernel⟩
theorem iw_X2_addField : zIW mX2_addField := ⟨(zg_2_4 _ (List.mem_of_getElem? (i := 21) rfl) rfl), (zg_2_4 _ (List.mem_of_getElem? (i := 22) rfl) rfl)⟩
theorem cw_X2_addBand : zCW mX2_addBand 2 := ⟨(zg_2_4 _ (List.mem_of_getElem? (i := 15) rfl) rfl), ini_X2, by decide +kernel, by decide, by decide +kernel⟩
theorem iw_X2_addBand : zIW mX2_addBand := ⟨(zg_2_4 _ (List.mem_of_getElem? (i := 13) rfl) rfl), (zg_2_4 _ (List.mem_of_getElem? (i := 14) rfl) rfl)⟩
theorem cw_X2_addSeen : zCW mX2_addSeen 3 := ⟨(zg_3_5 _ (List.mem_of_getElem? (i := 4) rfl) rfl), ini_X2, by decide +kernel, by decide, by decide +kernel⟩
theorem iw_X2_addSeen : zIW mX2_addSeen := ⟨(zg_3_5 _ (List.mem_of_getElem? (i := 2) rfl) rfl), (zg_3_5 _ (List.mem_of_getElem? (i := 3) rfl) rfl)⟩
theorem cw_X2_heardAt : zCW mX2_heardAt 1 := ⟨(zg_2_5 _ (List.mem_of_getElem? (i := 29) rfl) rfl), ini_X2, by decide +kernel, by decide, by decide +kernel⟩
theorem iw_X2_heardAt : zIW mX2_heardAt := ⟨(zg_2_5 _ (List.mem_of_getElem? (i := 27) rfl) rfl), (zg_2_5 _ (List.mem_of_getElem? (i := 28) rfl) rfl)⟩
theorem cw_X2_hearingFields : zCW mX2_hearingFields 0 := ⟨(zg_2_5 _ (List.mem_of_getElem? (i := 17) rfl) rfl), ini_X2, by decide +kernel, by decide, by decide +kernel⟩
theorem iw_X2_hearingFields : zIW mX2_hearingFields := ⟨(zg_2_5 _ (List.mem_of_getElem? (i := 15) rfl) rfl), (zg_2_5 _ (List.mem_of_getElem? (i := 16) rfl) rfl)⟩
theorem cw_X2_earlessFields : zCW mX2_earlessFields 0 := ⟨(zg_3_0 _ (List.mem_of_getElem? (i := 28) rfl) rfl), ini_X2, by decide +kernel, by decide, by decide +kernel⟩
theorem iw_X2_earlessFields : zIW mX2_earlessFields := ⟨(zg_3_0 _ (List.mem_of_getElem? (i := 26) rfl) rfl), (zg_3_0 _ (List.mem_of_getElem? (i := 27) rfl) rfl)⟩
theorem cw_X2_allEars : zCW mX2_allEars 0 := ⟨(zg_2_5 _ (List.mem_of_getElem? (i := 10) rfl) rfl), ini_X2, by decide +kernel, by decide, by decide +kernel⟩
theorem iw_X2_allEars : zIW mX2_allEars := ⟨(zg_2_5 _ (List.mem_of_getElem? (i := 8) rfl) rfl), (zg_2_5 _ (List.mem_of_getElem? (i := 9) rfl) rfl)⟩
theorem cw_X2_allBlight : zCW mX2_allBlight 0 := ⟨(zg_3_0 _ (List.mem_of_getElem? (i := 24) rfl) rfl), ini_X2, by decide +kernel, by decide, by decide +kernel⟩
theorem iw_X2_allBlight : zIW mX2_allBlight := ⟨(zg_3_0 _ (List.mem_of_getElem? (i := 22) rfl) rfl), (zg_3_0 _ (List.mem_of_getElem? (i := 23) rfl) rfl)⟩
theorem cw_X2_allLoud : zCW mX2_allLoud 0 := ⟨(zg_4_0 _ (List.mem_of_getElem? (i := 27) rfl) rfl), ini_X2, by decide +kernel, by decide, by decide +kernel⟩
theorem iw_X2_allLoud : zIW mX2_allLoud := ⟨(zg_4_0 _ (List.mem_of_getElem? (i := 25) rfl) rfl), (zg_4_0 _ (List.mem_of_getElem? (i := 26) rfl) rfl)⟩
theorem cw_X2_sumOf : zCW mX2_sumOf 2 := ⟨(zg_2_5 _ (List.mem_of_getElem? (i := 13) rfl) rfl), ini_X2, by decide +kernel, by decide, by decide +kernel⟩
theorem sw_X2_sumOf : zSW mX2_sumOf := (zg_2_5 _ (List.mem_of_getElem? (i := 12) rfl) rfl)
theorem cw_X2_passWeek : zCW mX2_passWeek 0 := ⟨(zg_3_0 _ (List.mem_of_getElem? (i := 3) rfl) rfl), ini_X2, by decide +kernel, by decide, by decide +kernel⟩
theorem iw_X2_passWeek : zIW mX2_passWeek := ⟨(zg_3_0 _ (List.mem_of_getElem? (i := 1) rfl) rfl), (zg_3_0 _ (List.mem_of_getElem? (i := 2) rfl) rfl)⟩
theorem cw_X2_passWeeks : zCW mX2_passWeeks 1 := ⟨(zg_2_7 _ (List.mem_of_getElem? (i := 15) rfl) rfl), ini_X2, by decide +kernel, by decide, by decide +kernel⟩
theorem iw_X2_passWeeks : zIW mX2_passWeeks := ⟨(zg_2_7 _ (List.mem_of_getElem? (i := 13) rfl) rfl), (zg_2_7 _ (List.mem_of_getElem? (i := 14) rfl) rfl)⟩
theorem cw_X2_earsIf : zCW mX2_earsIf 3 := ⟨(zg_3_1 _ (List.mem_of_getElem? (i := 4) rfl) rfl), ini_X2, by decide +kernel, by decide, by decide +kernel⟩
theorem iw_X2_earsIf : zIW mX2_earsIf := ⟨(zg_3_1 _ (List.mem_of_getElem? (i := 2) rfl) rfl), (zg_3_1 _ (List.mem_of_getElem? (i := 3) rfl) rfl)⟩
theorem cw_X2_gainBy : zCW mX2_gainBy 3 := ⟨(zg_3_2 _ (List.mem_of_getElem? (i := 22) rfl) rfl), ini_X2, by decide +kernel, by decide, by decide +kernel⟩
theorem iw_X2_gainBy : zIW mX2_gainBy := ⟨(zg_3_2 _ (List.mem_of_getElem? (i := 20) rfl) rfl), (zg_3_2 _ (List.mem_of_getElem? (i := 21) rfl) rfl)⟩
theorem cw_X2_allEarsBehind : zCW mX2_allEarsBehind 1 := ⟨(zg_3_2 _ (List.mem_of_getElem? (i := 27) rfl) rfl), ini_X2, by decide +kernel, by decide, by decide +kernel⟩
theorem iw_X2_allEarsBehind : zIW mX2_allEarsBehind := ⟨(zg_3_2 _ (List.mem_of_getElem? (i := 25) rfl) rfl), (zg_3_2 _ (List.mem_of_getElem? (i := 26) rfl) rfl)⟩
theorem cw_X2_isAsSeen : zCW mX2_isAsSeen 3 := ⟨(zg_3_5 _ (List.mem_of_getElem? (i := 16) rfl) rfl), ini_X2, by decide +kernel, by decide, by decide +kernel⟩
theorem iw_X2_isAsSeen : zIW mX2_isAsSeen := ⟨(zg_3_5 _ (List.mem_of_getElem? (i := 14) rfl) rfl), (zg_3_5 _ (List.mem_of_getElem? (i := 15) rfl) rfl)⟩
theorem cw_X3_init : zCW mX3_init 0 := ⟨(zg_1_4 _ (List.mem_of_getElem? (i := 10) rfl) rfl), ini_X3, by decide +kernel, by decide, by decide +kernel⟩
theorem ii_X3_init : Cond.instanceMethod mX3_init.1 ∈ zW := (zg_1_4 _ (List.mem_of_getElem? (i := 9) rfl) rfl)
theorem cw_X3_findBest : zCW mX3_findBest 1 := ⟨(zg_3_1 _ (List.mem_of_getElem? (i := 24) rfl) rfl), ini_X3, by decide +kernel, by decide, by decide +kernel⟩
theorem iw_X3_findBest : zIW mX3_findBest := ⟨(zg_3_1 _ (List.mem_of_getElem? (i := 22) rfl) rfl), (zg_3_1 _ (List.mem_of_getElem? (i := 23) rfl) rfl)⟩
theorem cw_X3_weigh : zCW mX3_weigh 1 := ⟨(zg_3_1 _ (List.mem_of_getElem? (i := 28) rfl) rfl), ini_X3, by decide +kernel, by decide, by decide +kernel⟩
theorem iw_X3_weigh : zIW mX3_weigh := ⟨(zg_3_1 _ (List.mem_of_getElem? (i := 27) rfl) rfl), (zg_s_0 _ (List.mem_of_getElem? (i := 15) rfl) rfl)⟩
theorem cw_X3_beginRows : zCW mX3_beginRows 1 := ⟨(zg_3_2 _ (List.mem_of_getElem? (i := 1) rfl) rfl), ini_X3, by decide +kernel, by decide, by decide +kernel⟩
theorem iw_X3_beginRows : zIW mX3_beginRows := ⟨(zg_3_2 _ (List.mem_of_getElem? (i := 0) rfl) rfl), (zg_s_0 _ (List.mem_of_getElem? (i := 16) rfl) rfl)⟩
theorem cw_X3_nextRow : zCW mX3_nextRow 1 := ⟨(zg_3_2 _ (List.mem_of_getElem? (i := 6) rfl) rfl), ini_X3, by decide +kernel, by decide, by decide +kernel⟩
theorem iw_X3_nextRow : zIW mX3_nextRow := ⟨(zg_3_2 _ (List.mem_of_getElem? (i := 5) rfl) rfl), (zg_s_0 _ (List.mem_of_getElem? (i := 17) rfl) rfl)⟩
theorem cw_X3_place : zCW mX3_place 2 := ⟨(zg_3_2 _ (List.mem_of_getElem? (i := 10) rfl) rfl), ini_X3, by decide +kernel, by decide, by decide +kernel⟩
theorem iw_X3_place : zIW mX3_place := ⟨(zg_3_2 _ (List.mem_of_getElem? (i := 9) rfl) rfl), (zg_s_0 _ (List.mem_of_getElem? (i := 18) rfl) rfl)⟩
theorem cw_X3_toggle : zCW mX3_toggle 2 := ⟨(zg_3_2 _ (List.mem_of_getElem? (i := 14) rfl) rfl), ini_X3, by decide +kernel, by decide, by decide +kernel⟩
theorem iw_X3_toggle : zIW mX3_toggle := ⟨(zg_3_2 _ (List.mem_of_getElem? (i := 13) rfl) rfl), (zg_s_0 _ (List.mem_of_getElem? (i := 19) rfl) rfl)⟩
theorem cw_X4_init : zCW mX4_init 0 := ⟨(zg_1_6 _ (List.mem_of_getElem? (i := 10) rfl) rfl), ini_X4, by decide +kernel, by decide, by decide +kernel⟩
theorem ii_X4_init : Cond.instanceMethod mX4_init.1 ∈ zW := (zg_1_6 _ (List.mem_of_getElem? (i := 9) rfl) rfl)
theorem cw_X4_renew : zCW mX4_renew 3 := ⟨(zg_3_7 _ (List.mem_of_getElem? (i := 1) rfl) rfl), ini_X4, by decide +kernel, by decide, by decide +kernel⟩
theorem iw_X4_renew : zIW mX4_renew := ⟨(zg_3_6 _ (List.mem_of_getElem? (i := 31) rfl) rfl), (zg_3_7 _ (List.mem_of_getElem? (i := 0) rfl) rfl)⟩
theorem cw_X4_faultAt : zCW mX4_faultAt 3 := ⟨(zg_3_7 _ (List.mem_of_getElem? (i := 9) rfl) rfl), ini_X4, by decide +kernel, by decide, by decide +kernel⟩
theorem iw_X4_faultAt : zIW mX4_faultAt := ⟨(zg_3_7 _ (List.mem_of_getElem? (i := 7) rfl) rfl), (zg_3_7 _ (List.mem_of_getElem? (i := 8) rfl) rfl)⟩
theorem cw_X4_pairFault : zCW mX4_pairFault 3 := ⟨(zg_4_0 _ (List.mem_of_getElem? (i := 9) rfl) rfl), ini_X4, by decide +kernel, by decide, by decide +kernel⟩
theorem iw_X4_pairFault : zIW mX4_pairFault := ⟨(zg_4_0 _ (List.mem_of_getElem? (i := 7) rfl) rfl), (zg_4_0 _ (List.mem_of_getElem? (i := 8) rfl) rfl)⟩
theorem cw_X4_put : zCW mX4_put 3 := ⟨(zg_3_7 _ (List.mem_of_getElem? (i := 14) rfl) rfl), ini_X4, by decide +kernel, by decide, by decide +kernel⟩
theorem iw_X4_put : zIW mX4_put := ⟨(zg_3_7 _ (List.mem_of_getElem? (i := 12) rfl) rfl), (zg_3_7 _ (List.mem_of_getElem? (i := 13) rfl) rfl)⟩
theorem cw_X4_get : zCW mX4_get 2 := ⟨(zg_4_0 _ (List.mem_of_getElem? (i := 14) rfl) rfl), ini_X4, by decide +kernel, by decide, by decide +kernel⟩
theorem iw_X4_get : zIW mX4_get := ⟨(zg_4_0 _ (List.mem_of_getElem? (i := 12) rfl) rfl), (zg_4_0 _ (List.mem_of_getElem? (i := 13) rfl) rfl)⟩
theorem cw_X4_lowestBits : zCW mX4_lowestBits 2 := ⟨(zg_4_0 _ (List.mem_of_getElem? (i := 1) rfl) rfl), ini_X4, by decide +kernel, by decide, by decide +kernel⟩
theorem sw_X4_lowestBits : zSW mX4_lowestBits := (zg_4_0 _ (List.mem_of_getElem? (i := 0) rfl) rfl)
theorem cw_X5_init : zCW mX5_init 0 := ⟨(zg_1_3 _ (List.mem_of_getElem? (i := 3) rfl) rfl), ini_X5, by decide +kernel, by decide, by decide +kernel⟩
theorem ii_X5_init : Cond.instanceMethod mX5_init.1 ∈ zW := (zg_1_3 _ (List.mem_of_getElem? (i := 2) rfl) rfl)
theorem cw_X5_append : zCW mX5_append 1 := ⟨(zg_2_0 _ (List.mem_of_getElem? (i := 17) rfl) rfl), ini_X5, by decide +kernel, by decide, by decide +kernel⟩
theorem iw_X5_append : zIW mX5_append := ⟨(zg_2_0 _ (List.mem_of_getElem? (i := 15) rfl) rfl), (zg_2_0 _ (List.mem_of_getElem? (i := 16) rfl) rfl)⟩
theorem cw_X5_tellAll : zCW mX5_tellAll 1 := ⟨(zg_2_0 _ (List.mem_of_getElem? (i := 29) rfl) rfl), ini_X5, by decide +kernel, by decide, by decide +kernel⟩
theorem iw_X5_tellAll : zIW mX5_tellAll := ⟨(zg_2_0 _ (List.mem_of_getElem? (i := 27) rfl) rfl), (zg_2_0 _ (List.mem_of_getElem? (i := 28) rfl) rfl)⟩
theorem cw_X5_refuse : zCW mX5_refuse 2 := ⟨(zg_2_1 _ (List.mem_of_getElem? (i := 28) rfl) rfl), ini_X5, by decide +kernel, by decide, by decide +kernel⟩
theorem iw_X5_refuse : zIW mX5_refuse := ⟨(zg_2_1 _ (List.mem_of_getElem? (i := 27) rfl) rfl), (zg_s_0 _ (List.mem_of_getElem? (i := 5) rfl) rfl)⟩
theorem cw_X5_takeLine : zCW mX5_takeLine 1 := ⟨(zg_2_1 _ (List.mem_of_getElem? (i := 20) rfl) rfl), ini_X5, by decide +kernel, by decide, by decide +kernel⟩
theorem iw_X5_takeLine : zIW mX5_takeLine := ⟨(zg_2_1 _ (List.mem_of_getElem? (i := 19) rfl) rfl), (zg_s_0 _ (List.mem_of_getElem? (i := 3) rfl) rfl)⟩
theorem cw_X5_takeField : zCW mX5_takeField 2 := ⟨(zg_2_4 _ (List.mem_of_getElem? (i := 19) rfl) rfl), ini_X5, by decide +kernel, by decide, by decide +kernel⟩
theorem iw_X5_takeField : zIW mX5_takeField := ⟨(zg_2_4 _ (List.mem_of_getElem? (i := 18) rfl) rfl), (zg_s_0 _ (List.mem_of_getElem? (i := 12) rfl) rfl)⟩
theorem cw_X5_takeBand : zCW mX5_takeBand 1 := ⟨(zg_2_4 _ (List.mem_of_getElem? (i := 11) rfl) rfl), ini_X5, by decide +kernel, by decide, by decide +kernel⟩
theorem iw_X5_takeBand : zIW mX5_takeBand := ⟨(zg_2_4 _ (List.mem_of_getElem? (i := 10) rfl) rfl), (zg_s_0 _ (List.mem_of_getElem? (i := 11) rfl) rfl)⟩
theorem cw_X5_takeGlut : zCW mX5_takeGlut 1 := ⟨(zg_2_3 _ (List.mem_of_getElem? (i := 30) rfl) rfl), ini_X5, by decide +kernel, by decide, by decide +kernel⟩
theorem iw_X5_takeGlut : zIW mX5_takeGlut := ⟨(zg_2_3 _ (List.mem_of_getElem? (i := 29) rfl) rfl), (zg_s_0 _ (List.mem_of_getElem? (i := 8) rfl) rfl)⟩
theorem cw_X5_takeNumber : zCW mX5_takeNumber 2 := ⟨(zg_2_4 _ (List.mem_of_getElem? (i := 2) rfl) rfl), ini_X5, by decide +kernel, by decide, by decide +kernel⟩
theorem iw_X5_takeNumber : zIW mX5_takeNumber := ⟨(zg_2_4 _ (List.mem_of_getElem? (i := 1) rfl) rfl), (zg_s_0 _ (List.mem_of_getElem? (i := 9) rfl) rfl)⟩
theorem cw_X5_takeSemicolon : zCW mX5_takeSemicolon 0 := ⟨(zg_2_4 _ (List.mem_of_getElem? (i := 7) rfl) rfl), ini_X5, by decide +kernel, by decide, by decide +kernel⟩
theorem iw_X5_takeSemicolon : zIW mX5_takeSemicolon := ⟨(zg_2_4 _ (List.mem_of_getElem? (i := 6) rfl) rfl), (zg_s_0 _ (List.mem_of_getElem? (i := 10) rfl) rfl)⟩
theorem cw_X5_isToken : zCW mX5_isToken 1 := ⟨(zg_2_1 _ (List.mem_of_getElem? (i := 24) rfl) rfl), ini_X5, by decide +kernel, by decide, by decide +kernel⟩
theorem iw_X5_isToken : zIW mX5_isToken := ⟨(zg_2_1 _ (List.mem_of_getElem? (i := 23) rfl) rfl), (zg_s_0 _ (List.mem_of_getElem? (i := 4) rfl) rfl)⟩
theorem cw_X5_nextToken : zCW mX5_nextToken 0 := ⟨(zg_2_1 _ (List.mem_of_getElem? (i := 5) rfl) rfl), ini_X5, by decide +kernel, by decide, by decide +kernel⟩
theorem iw_X5_nextToken : zIW mX5_nextToken := ⟨(zg_2_1 _ (List.mem_of_getElem? (i := 4) rfl) rfl), (zg_s_0 _ (List.mem_of_getElem? (i := 0) rfl) rfl)⟩
theorem cw_X5_stretch : zCW mX5_stretch 2 := ⟨(zg_2_1 _ (List.mem_of_getElem? (i := 9) rfl) rfl), ini_X5, by decide +kernel, by decide, by decide +kernel⟩
theorem iw_X5_stretch : zIW mX5_stretch := ⟨(zg_2_1 _ (List.mem_of_getElem? (i := 8) rfl) rfl), (zg_s_0 _ (List.mem_of_getElem? (i := 1) rfl) rfl)⟩
theorem cw_X5_readNumber : zCW mX5_readNumber 1 := ⟨(zg_2_1 _ (List.mem_of_getElem? (i := 13) rfl) rfl), ini_X5, by decide +kernel, by decide, by decide +kernel⟩
theorem iw_X5_readNumber : zIW mX5_readNumber := ⟨(zg_2_1 _ (List.mem_of_getElem? (i := 12) rfl) rfl), (zg_s_0 _ (List.mem_of_getElem? (i := 2) rfl) rfl)⟩
theorem cw_X5_lineBegun : zCW mX5_lineBegun 0 := ⟨(zg_2_2 _ (List.mem_of_getElem? (i := 0) rfl) rfl), ini_X5, by decide +kernel, by decide, by decide +kernel⟩
theorem iw_X5_lineBegun : zIW mX5_lineBegun := ⟨(zg_2_1 _ (List.mem_of_getElem? (i := 31) rfl) rfl), (zg_s_0 _ (List.mem_of_getElem? (i := 6) rfl) rfl)⟩
theorem cw_X5_isNamed : zCW mX5_isNamed 1 := ⟨(zg_2_2 _ (List.mem_of_getElem? (i := 5) rfl) rfl), ini_X5, by decide +kernel, by decide, by decide +kernel⟩
theorem iw_X5_isNamed : zIW mX5_isNamed := ⟨(zg_2_2 _ (List.mem_of_getElem? (i := 4) rfl) rfl), (zg_s_0 _ (List.mem_of_getElem? (i := 7) rfl) rfl)⟩
theorem cw_X6_init : zCW mX6_init 0 := ⟨(zg_1_0 _ (List.mem_of_getElem? (i := 19) rfl) rfl), ini_X6, by decide +kernel, by decide, by decide +kernel⟩
theorem ii_X6_init : Cond.instanceMethod mX6_init.1 ∈ zW := (zg_1_0 _ (List.mem_of_getElem? (i := 18) rfl) rfl)
theorem cw_X6_feed : zCW mX6_feed 1 := ⟨(zg_2_0 _ (List.mem_of_getElem? (i := 10) rfl) rfl), ini_X6, by decide +kernel, by decide, by decide +kernel⟩
theorem iw_X6_feed : zIW mX6_feed := ⟨(zg_2_0 _ (List.mem_of_getElem? (i := 8) rfl) rfl), (zg_2_0 _ (List.mem_of_getElem? (i := 9) rfl) rfl)⟩
theorem cw_X6_end : zCW mX6_end 1 := ⟨(zg_2_0 _ (List.mem_of_getElem? (i := 21) rfl) rfl), ini_X6, by decide +kernel, by decide, by decide +kernel⟩
theorem iw_X6_end : zIW mX6_end := ⟨(zg_2_0 _ (List.mem_of_getElem? (i := 19) rfl) rfl), (zg_2_0 _ (List.mem_of_getElem? (i := 20) rfl) rfl)⟩
theorem cw_X6_text : zCW mX6_text 0 := ⟨(zg_2_0 _ (List.mem_of_getElem? (i := 25) rfl) rfl), ini_X6, by decide +kernel, by decide, by decide +kernel⟩
theorem iw_X6_text : zIW mX6_text := ⟨(zg_2_0 _ (List.mem_of_getElem? (i := 23) rfl) rfl), (zg_2_0 _ (List.mem_of_getElem? (i := 24) rfl) rfl)⟩
theorem cw_X6_fault : zCW mX6_fault 0 := ⟨(zg_2_5 _ (List.mem_of_getElem? (i := 2) rfl) rfl), ini_X6, by decide +kernel, by decide, by decide +kernel⟩
theorem iw_X6_fault : zIW mX6_fault := ⟨(zg_2_5 _ (List.mem_of_getElem? (i := 0) rfl) rfl), (zg_2_5 _ (List.mem_of_getElem? (i := 1) rfl) rfl)⟩
theorem cw_X6_rule : zCW mX6_rule 1 := ⟨(zg_2_5 _ (List.mem_of_getElem? (i := 6) rfl) rfl), ini_X6, by decide +kernel, by decide, by decide +kernel⟩
theorem iw_X6_rule : zIW mX6_rule := ⟨(zg_2_5 _ (List.mem_of_getElem? (i := 4) rfl) rfl), (zg_2_5 _ (List.mem_of_getElem? (i := 5) rfl) rfl)⟩
theorem cw_X6_field : zCW mX6_field 2 := ⟨(zg_2_5 _ (List.mem_of_getElem? (i := 21) rfl) rfl), ini_X6, by decide +kernel, by decide, by decide +kernel⟩
theorem iw_X6_field : zIW mX6_field := ⟨(zg_2_5 _ (List.mem_of_getElem? (i := 19) rfl) rfl), (zg_2_5 _ (List.mem_of_getElem? (i := 20) rfl) rfl)⟩
theorem cw_X6_band : zCW mX6_band 2 := ⟨(zg_2_6 _ (List.mem_of_getElem? (i := 7) rfl) rfl), ini_X6, by decide +kernel, by decide, by decide +kernel⟩
theorem iw_X6_band : zIW mX6_band := ⟨(zg_2_6 _ (List.mem_of_getElem? (i := 5) rfl) rfl), (zg_2_6 _ (List.mem_of_getElem? (i := 6) rfl) rfl)⟩
theorem cw_X6_alter : zCW mX6_alter 3 := ⟨(zg_2_6 _ (List.mem_of_getElem? (i := 15) rfl) rfl), ini_X6, by decide +kernel, by decide, by decide +kernel⟩
theorem iw_X6_alter : zIW mX6_alter := ⟨(zg_2_6 _ (List.mem_of_getElem? (i := 13) rfl) rfl), (zg_2_6 _ (List.mem_of_getElem? (i := 14) rfl) rfl)⟩
theorem cw_X6_replace : zCW mX6_replace 4 := ⟨(zg_2_6 _ (List.mem_of_getElem? (i := 18) rfl) rfl), ini_X6, by decide +kernel, by decide, by decide +kernel⟩
theorem sw_X6_replace : zSW mX6_replace := (zg_2_6 _ (List.mem_of_getElem? (i := 17) rfl) rfl)
theorem cw_X6_march : zCW mX6_march 2 := ⟨(zg_2_6 _ (List.mem_of_getElem? (i := 22) rfl) rfl), ini_X6, by decide +kernel, by decide, by decide +kernel⟩
theorem iw_X6_march : zIW mX6_march := ⟨(zg_2_6 _ (List.mem_of_getElem? (i := 20) rfl) rfl), (zg_2_6 _ (List.mem_of_getElem? (i := 21) rfl) rfl)⟩
theorem cw_X6_play : zCW mX6_play 2 := ⟨(zg_2_6 _ (List.mem_of_getElem? (i := 26) rfl) rfl), ini_X6, by decide +kernel, by decide, by decide +kernel⟩
theorem iw_X6_play : zIW mX6_play := ⟨(zg_2_6 _ (List.mem_of_getElem? (i := 24) rfl) rfl), (zg_2_6 _ (List.mem_of_getElem? (i := 25) rfl) rfl)⟩
theorem cw_X6_glut : zCW mX6_glut 1 := ⟨(zg_2_6 _ (List.mem_of_getElem? (i := 30) rfl) rfl), ini_X6, by decide +kernel, by decide, by decide +kernel⟩
theorem iw_X6_glut : zIW mX6_glut := ⟨(zg_2_6 _ (List.mem_of_getElem? (i := 28) rfl) rfl), (zg_2_6 _ (List.mem_of_getElem? (i := 29) rfl) rfl)⟩
theorem cw_X6_hire : zCW mX6_hire 2 := ⟨(zg_2_7 _ (List.mem_of_getElem? (i := 2) rfl) rfl), ini_X6, by decide +kernel, by decide, by decide +kernel⟩
theorem iw_X6_hire : zIW mX6_hire := ⟨(zg_2_7 _ (List.mem_of_getElem? (i := 0) rfl) rfl), (zg_2_7 _ (List.mem_of_getElem? (i := 1) rfl) rfl)⟩
theorem cw_X6_leave : zCW mX6_leave 1 := ⟨(zg_2_7 _ (List.mem_of_getElem? (i := 7) rfl) rfl), ini_X6, by decide +kernel, by decide, by decide +kernel⟩
theorem iw_X6_leave : zIW mX6_leave := ⟨(zg_2_7 _ (List.mem_of_getElem? (i := 5) rfl) rfl), (zg_2_7 _ (List.mem_of_getElem? (i := 6) rfl) rfl)⟩
theorem cw_X6_weeks : zCW mX6_weeks 1 := ⟨(zg_2_7 _ (List.mem_of_getElem? (i := 11) rfl) rfl), ini_X6, by decide +kernel, by decide, by decide +kernel⟩
theorem iw_X6_weeks : zIW mX6_weeks := ⟨(zg_2_7 _ (List.mem_of_getElem? (i := 9) rfl) rfl), (zg_2_7 _ (List.mem_of_getElem? (i := 10) rfl) rfl)⟩
theorem cw_X6_runs : zCW mX6_runs 2 := ⟨(zg_3_0 _ (List.mem_of_getElem? (i := 20) rfl) rfl), ini_X6, by decide +kernel, by decide, by decide +kernel⟩
theorem iw_X6_runs : zIW mX6_runs := ⟨(zg_3_0 _ (List.mem_of_getElem? (i := 18) rfl) rfl), (zg_3_0 _ (List.mem_of_getElem? (i := 19) rfl) rfl)⟩
theorem cw_X6_ahead : zCW mX6_ahead 3 := ⟨(zg_3_1 _ (List.mem_of_getElem? (i := 0) rfl) rfl), ini_X6, by decide +kernel, by decide, by decide +kernel⟩
theorem iw_X6_ahead : zIW mX6_ahead := ⟨(zg_3_0 _ (List.mem_of_getElem? (i := 30) rfl) rfl), (zg_3_0 _ (List.mem_of_getElem? (i := 31) rfl) rfl)⟩
theorem cw_X6_late : zCW mX6_late 2 := ⟨(zg_3_1 _ (List.mem_of_getElem? (i := 16) rfl) rfl), ini_X6, by decide +kernel, by decide, by decide +kernel⟩
theorem iw_X6_late : zIW mX6_late := ⟨(zg_3_1 _ (List.mem_of_getElem? (i := 14) rfl) rfl), (zg_3_1 _ (List.mem_of_getElem? (i := 15) rfl) rfl)⟩
theorem cw_X6_order : zCW mX6_order 1 := ⟨(zg_3_1 _ (List.mem_of_getElem? (i := 20) rfl) rfl), ini_X6, by decide +kernel, by decide, by decide +kernel⟩
theorem iw_X6_order : zIW mX6_order := ⟨(zg_3_1 _ (List.mem_of_getElem? (i := 18) rfl) rfl), (zg_3_1 _ (List.mem_of_getElem? (i := 19) rfl) rfl)⟩
theorem cw_X6_move : zCW mX6_move 2 := ⟨(zg_3_2 _ (List.mem_of_getElem? (i := 18) rfl) rfl), ini_X6, by decide +kernel, by decide, by decide +kernel⟩
theorem iw_X6_move : zIW mX6_move := ⟨(zg_3_2 _ (List.mem_of_getElem? (i := 16) rfl) rfl), (zg_3_2 _ (List.mem_of_getElem? (i := 17) rfl) rfl)⟩
theorem cw_X6_still : zCW mX6_still 2 := ⟨(zg_3_2 _ (List.mem_of_getElem? (i := 31) rfl) rfl), ini_X6, by decide +kernel, by decide, by decide +kernel⟩
theorem iw_X6_still : zIW mX6_still := ⟨(zg_3_2 _ (List.mem_of_getElem? (i := 29) rfl) rfl), (zg_3_2 _ (List.mem_of_getElem? (i := 30) rfl) rfl)⟩
theorem cw_X6_sheavesWithout : zCW mX6_sheavesWithout 2 := ⟨(zg_3_3 _ (List.mem_of_getElem? (i := 3) rfl) rfl), ini_X6, by decide +kernel, by decide, by decide +kernel⟩
theorem iw_X6_sheavesWithout : zIW mX6_sheavesWithout := ⟨(zg_3_3 _ (List.mem_of_getElem? (i := 2) rfl) rfl), (zg_s_0 _ (List.mem_of_getElem? (i := 20) rfl) rfl)⟩
theorem cw_X6_need : zCW mX6_need 3 := ⟨(zg_3_3 _ (List.mem_of_getElem? (i := 7) rfl) rfl), ini_X6, by decide +kernel, by decide, by decide +kernel⟩
theorem iw_X6_need : zIW mX6_need := ⟨(zg_3_3 _ (List.mem_of_getElem? (i := 5) rfl) rfl), (zg_3_3 _ (List.mem_of_getElem? (i := 6) rfl) rfl)⟩
theorem cw_X6_swap : zCW mX6_swap 2 := ⟨(zg_3_3 _ (List.mem_of_getElem? (i := 11) rfl) rfl), ini_X6, by decide +kernel, by decide, by decide +kernel⟩
theorem iw_X6_swap : zIW mX6_swap := ⟨(zg_3_3 _ (List.mem_of_getElem? (i := 9) rfl) rfl), (zg_3_3 _ (List.mem_of_getElem? (i := 10) rfl) rfl)⟩
theorem cw_X6_bear : zCW mX6_bear 3 := ⟨(zg_3_3 _ (List.mem_of_getElem? (i := 15) rfl) rfl), ini_X6, by decide +kernel, by decide, by decide +kernel⟩
theorem iw_X6_bear : zIW mX6_bear := ⟨(zg_3_3 _ (List.mem_of_getElem? (i := 13) rfl) rfl), (zg_3_3 _ (List.mem_of_getElem? (i := 14) rfl) rfl)⟩
theorem cw_X6_kind : zCW mX6_kind 3 := ⟨(zg_3_3 _ (List.mem_of_getElem? (i := 20) rfl) rfl), ini_X6, by decide +kernel, by decide, by decide +kernel⟩
theorem iw_X6_kind : zIW mX6_kind := ⟨(zg_3_3 _ (List.mem_of_getElem? (i := 18) rfl) rfl), (zg_3_3 _ (List.mem_of_getElem? (i := 19) rfl) rfl)⟩
theorem cw_X6_luck : zCW mX6_luck 5 := ⟨(zg_3_3 _ (List.mem_of_getElem? (i := 24) rfl) rfl), ini_X6, by decide +kernel, by decide, by decide +kernel⟩
theorem iw_X6_luck : zIW mX6_luck := ⟨(zg_3_3 _ (List.mem_of_getElem? (i := 22) rfl) rfl), (zg_3_3 _ (List.mem_of_getElem? (i := 23) rfl) rfl)⟩
theorem cw_X6_mean : zCW mX6_mean 3 := ⟨(zg_3_4 _ (List.mem_of_getElem? (i := 24) rfl) rfl), ini_X6, by decide +kernel, by decide, by decide +kernel⟩
theorem iw_X6_mean : zIW mX6_mean := ⟨(zg_3_4 _ (List.mem_of_getElem? (i := 22) rfl) rfl), (zg_3_4 _ (List.mem_of_getElem? (i := 23) rfl) rfl)⟩
theorem cw_X6_tenToThe : zCW mX6_tenToThe 1 := ⟨(zg_3_4 _ (List.mem_of_getElem? (i := 16) rfl) rfl), ini_X6, by decide +kernel, by decide, by decide +kernel⟩
theorem sw_X6_tenToThe : zSW mX6_tenToThe := (zg_3_4 _ (List.mem_of_getElem? (i := 15) rfl) rfl)
theorem cw_X6_lowestTerms : zCW mX6_lowestTerms 3 := ⟨(zg_3_4 _ (List.mem_of_getElem? (i := 20) rfl) rfl), ini_X6, by decide +kernel, by decide, by decide +kernel⟩
theorem sw_X6_lowestTerms : zSW mX6_lowestTerms := (zg_3_4 _ (List.mem_of_getElem? (i := 19) rfl) rfl)
theorem cw_X6_see : zCW mX6_see 3 := ⟨(zg_3_5 _ (List.mem_of_getElem? (i := 0) rfl) rfl), ini_X6, by decide +kernel, by decide, by decide +kernel⟩
theorem iw_X6_see : zIW mX6_see := ⟨(zg_3_4 _ (List.mem_of_getElem? (i := 30) rfl) rfl), (zg_3_4 _ (List.mem_of_getElem? (i := 31) rfl) rfl)⟩
theorem cw_X6_forget : zCW mX6_forget 1 := ⟨(zg_3_5 _ (List.mem_of_getElem? (i := 8) rfl) rfl), ini_X6, by decide +kernel, by decide, by decide +kernel⟩
theorem iw_X6_forget : zIW mX6_forget := ⟨(zg_3_5 _ (List.mem_of_getElem? (i := 6) rfl) rfl), (zg_3_5 _ (List.mem_of_getElem? (i := 7) rfl) rfl)⟩
theorem cw_X6_kinds : zCW mX6_kinds 1 := ⟨(zg_3_5 _ (List.mem_of_getElem? (i := 12) rfl) rfl), ini_X6, by decide +kernel, by decide, by decide +kernel⟩
theorem iw_X6_kinds : zIW mX6_kinds := ⟨(zg_3_5 _ (List.mem_of_getElem? (i := 10) rfl) rfl), (zg_3_5 _ (List.mem_of_getElem? (i := 11) rfl) rfl)⟩
theorem cw_X6_blights : zCW mX6_blights 1 := ⟨(zg_3_5 _ (List.mem_of_getElem? (i := 20) rfl) rfl), ini_X6, by decide +kernel, by decide, by decide +kernel⟩
theorem iw_X6_blights : zIW mX6_blights := ⟨(zg_3_5 _ (List.mem_of_getElem? (i := 18) rfl) rfl), (zg_3_5 _ (List.mem_of_getElem? (i := 19) rfl) rfl)⟩
theorem cw_X6_blightsAsSeen : zCW mX6_blightsAsSeen 1 := ⟨(zg_3_5 _ (List.mem_of_getElem? (i := 24) rfl) rfl), ini_X6, by decide +kernel, by decide, by decide +kernel⟩
theorem iw_X6_blightsAsSeen : zIW mX6_blightsAsSeen := ⟨(zg_3_5 _ (List.mem_of_getElem? (i := 23) rfl) rfl), (zg_s_0 _ (List.mem_of_getElem? (i := 23) rfl) rfl)⟩
theorem cw_X6_ask : zCW mX6_ask 2 := ⟨(zg_3_5 _ (List.mem_of_getElem? (i := 28) rfl) rfl), ini_X6, by decide +kernel, by decide, by decide +kernel⟩
theorem iw_X6_ask : zIW mX6_ask := ⟨(zg_3_5 _ (List.mem_of_getElem? (i := 26) rfl) rfl), (zg_3_5 _ (List.mem_of_getElem? (i := 27) rfl) rfl)⟩
theorem cw_X6_drift : zCW mX6_drift 3 := ⟨(zg_3_6 _ (List.mem_of_getElem? (i := 15) rfl) rfl), ini_X6, by decide +kernel, by decide, by decide +kernel⟩
theorem iw_X6_drift : zIW mX6_drift := ⟨(zg_3_6 _ (List.mem_of_getElem? (i := 13) rfl) rfl), (zg_3_6 _ (List.mem_of_getElem? (i := 14) rfl) rfl)⟩
theorem cw_X6_keep : zCW mX6_keep 1 := ⟨(zg_3_6 _ (List.mem_of_getElem? (i := 21) rfl) rfl), ini_X6, by decide +kernel, by decide, by decide +kernel⟩
theorem iw_X6_keep : zIW mX6_keep := ⟨(zg_3_6 _ (List.mem_of_getElem? (i := 19) rfl) rfl), (zg_3_6 _ (List.mem_of_getElem? (i := 20) rfl) rfl)⟩
theorem cw_X6_back : zCW mX6_back 1 := ⟨(zg_3_6 _ (List.mem_of_getElem? (i := 25) rfl) rfl), ini_X6, by decide +kernel, by decide, by decide +kernel⟩
theorem iw_X6_back : zIW mX6_back := ⟨(zg_3_6 _ (List.mem_of_getElem? (i := 23) rfl) rfl), (zg_3_6 _ (List.mem_of_getElem? (i := 24) rfl) rfl)⟩
theorem cw_X6_sheet : zCW mX6_sheet 3 := ⟨(zg_3_6 _ (List.mem_of_getElem? (i := 29) rfl) rfl), ini_X6, by decide +kernel, by decide, by decide +kernel⟩
theorem iw_X6_sheet : zIW mX6_sheet := ⟨(zg_3_6 _ (List.mem_of_getElem? (i := 27) rfl) rfl), (zg_3_6 _ (List.mem_of_getElem? (i := 28) rfl) rfl)⟩
theorem cw_X6_lay : zCW mX6_lay 3 := ⟨(zg_3_7 _ (List.mem_of_getElem? (i := 5) rfl) rfl), ini_X6, by decide +kernel, by decide, by decide +kernel⟩
theorem iw_X6_lay : zIW mX6_lay := ⟨(zg_3_7 _ (List.mem_of_getElem? (i := 3) rfl) rfl), (zg_3_7 _ (List.mem_of_getElem? (i := 4) rfl) rfl)⟩
theorem cw_X6_read : zCW mX6_read 4 := ⟨(zg_4_0 _ (List.mem_of_getElem? (i := 5) rfl) rfl), ini_X6, by decide +kernel, by decide, by decide +kernel⟩
theorem iw_X6_read : zIW mX6_read := ⟨(zg_4_0 _ (List.mem_of_getElem? (i := 3) rfl) rfl), (zg_4_0 _ (List.mem_of_getElem? (i := 4) rfl) rfl)⟩
theorem cw_X6_torn : zCW mX6_torn 0 := ⟨(zg_4_0 _ (List.mem_of_getElem? (i := 19) rfl) rfl), ini_X6, by decide +kernel, by decide, by decide +kernel⟩
theorem iw_X6_torn : zIW mX6_torn := ⟨(zg_4_0 _ (List.mem_of_getElem? (i := 17) rfl) rfl), (zg_4_0 _ (List.mem_of_getElem? (i := 18) rfl) rfl)⟩
theorem cw_X6_count : zCW mX6_count 1 := ⟨(zg_4_0 _ (List.mem_of_getElem? (i := 23) rfl) rfl), ini_X6, by decide +kernel, by decide, by decide +kernel⟩
theorem iw_X6_count : zIW mX6_count := ⟨(zg_4_0 _ (List.mem_of_getElem? (i := 21) rfl) rfl), (zg_4_0 _ (List.mem_of_getElem? (i := 22) rfl) rfl)⟩
theorem cw_X6_within : zCW mX6_within 3 := ⟨(zg_2_0 _ (List.mem_of_getElem? (i := 13) rfl) rfl), ini_X6, by decide +kernel, by decide, by decide +kernel⟩
theorem sw_X6_within : zSW mX6_within := (zg_2_0 _ (List.mem_of_getElem? (i := 12) rfl) rfl)
theorem cw_X6_isField : zCW mX6_isField 1 := ⟨(zg_2_5 _ (List.mem_of_getElem? (i := 25) rfl) rfl), ini_X6, by decide +kernel, by decide, by decide +kernel⟩
theorem iw_X6_isField : zIW mX6_isField := ⟨(zg_2_5 _ (List.mem_of_getElem? (i := 24) rfl) rfl), (zg_s_0 _ (List.mem_of_getElem? (i := 13) rfl) rfl)⟩
theorem cw_X6_isBand : zCW mX6_isBand 1 := ⟨(zg_2_6 _ (List.mem_of_getElem? (i := 11) rfl) rfl), ini_X6, by decide +kernel, by decide, by decide +kernel⟩
theorem iw_X6_isBand : zIW mX6_isBand := ⟨(zg_2_6 _ (List.mem_of_getElem? (i := 10) rfl) rfl), (zg_s_0 _ (List.mem_of_getElem? (i := 14) rfl) rfl)⟩
theorem cw_X6_growth : zCW mX6_growth 2 := ⟨(zg_2_6 _ (List.mem_of_getElem? (i := 0) rfl) rfl), ini_X6, by decide +kernel, by decide, by decide +kernel⟩
theorem sw_X6_growth : zSW mX6_growth := (zg_2_5 _ (List.mem_of_getElem? (i := 31) rfl) rfl)
theorem cw_X6_heed : zCW mX6_heed 1 := ⟨(zg_2_6 _ (List.mem_of_getElem? (i := 3) rfl) rfl), ini_X6, by decide +kernel, by decide, by decide +kernel⟩
theorem sw_X6_heed : zSW mX6_heed := (zg_2_6 _ (List.mem_of_getElem? (i := 2) rfl) rfl)
theorem cw_X6_earsNext : zCW mX6_earsNext 4 := ⟨(zg_3_0 _ (List.mem_of_getElem? (i := 7) rfl) rfl), ini_X6, by decide +kernel, by decide, by decide +kernel⟩
theorem sw_X6_earsNext : zSW mX6_earsNext := (zg_3_0 _ (List.mem_of_getElem? (i := 6) rfl) rfl)
theorem cw_X6_blightNext : zCW mX6_blightNext 3 := ⟨(zg_3_0 _ (List.mem_of_getElem? (i := 14) rfl) rfl), ini_X6, by decide +kernel, by decide, by decide +kernel⟩
theorem sw_X6_blightNext : zSW mX6_blightNext := (zg_3_0 _ (List.mem_of_getElem? (i := 13) rfl) rfl)
theorem cw_X6_earsBehind : zCW mX6_earsBehind 5 := ⟨(zg_3_1 _ (List.mem_of_getElem? (i := 7) rfl) rfl), ini_X6, by decide +kernel, by decide, by decide +kernel⟩
theorem sw_X6_earsBehind : zSW mX6_earsBehind := (zg_3_1 _ (List.mem_of_getElem? (i := 6) rfl) rfl)
theorem cw_X6_blightBehind : zCW mX6_blightBehind 4 := ⟨(zg_3_1 _ (List.mem_of_getElem? (i := 12) rfl) rfl), ini_X6, by decide +kernel, by decide, by decide +kernel⟩
theorem sw_X6_blightBehind : zSW mX6_blightBehind := (zg_3_1 _ (List.mem_of_getElem? (i := 11) rfl) rfl)
theorem cw_X7_init : zCW mX7_init 0 := ⟨(zg_4_1 _ (List.mem_of_getElem? (i := 0) rfl) rfl), ini_X7, by decide +kernel, by decide, by decide +kernel⟩
theorem ii_X7_init : Cond.instanceMethod mX7_init.1 ∈ zW := (zg_4_0 _ (List.mem_of_getElem? (i := 31) rfl) rfl)
theorem cw_X7_in : zCW mX7_in 3 := ⟨(zg_4_4 _ (List.mem_of_getElem? (i := 9) rfl) rfl), ini_X7, by decide +kernel, by decide, by decide +kernel⟩
theorem sw_X7_in : zSW mX7_in := (zg_4_4 _ (List.mem_of_getElem? (i := 8) rfl) rfl)
theorem cw_X7_flag : zCW mX7_flag 1 := ⟨(zg_4_6 _ (List.mem_of_getElem? (i := 20) rfl) rfl), ini_X7, by decide +kernel, by decide, by decide +kernel⟩
theorem sw_X7_flag : zSW mX7_flag := (zg_4_6 _ (List.mem_of_getElem? (i := 19) rfl) rfl)
theorem cw_X7_within : zCW mX7_within 2 := ⟨(zg_5_1 _ (List.mem_of_getElem? (i := 29) rfl) rfl), ini_X7, by decide +kernel, by decide, by decide +kernel⟩
theorem sw_X7_within : zSW mX7_within := (zg_5_1 _ (List.mem_of_getElem? (i := 28) rfl) rfl)
theorem cw_X7_firstDraft : zCW mX7_firstDraft 0 := ⟨(zg_4_1 _ (List.mem_of_getElem? (i := 5) rfl) rfl), ini_X7, by decide +kernel, by decide, by decide +kernel⟩
theorem iw_X7_firstDraft : zIW mX7_firstDraft := ⟨(zg_4_1 _ (List.mem_of_getElem? (i := 4) rfl) rfl), (zg_s_0 _ (List.mem_of_getElem? (i := 24) rfl) rfl)⟩
theorem cw_X7_keepDraft : zCW mX7_keepDraft 0 := ⟨(zg_4_1 _ (List.mem_of_getElem? (i := 9) rfl) rfl), ini_X7, by decide +kernel, by decide, by decide +kernel⟩
theorem iw_X7_keepDraft : zIW mX7_keepDraft := ⟨(zg_4_1 _ (List.mem_of_getElem? (i := 8) rfl) rfl), (zg_s_0 _ (List.mem_of_getElem? (i := 25) rfl) rfl)⟩
theorem cw_X7_feed : zCW mX7_feed 1 := ⟨(zg_4_4 _ (List.mem_of_getElem? (i := 5) rfl) rfl), ini_X7, by decide +kernel, by decide, by decide +kernel⟩
theorem iw_X7_feed : zIW mX7_feed := ⟨(zg_4_4 _ (List.mem_of_getElem? (i := 3) rfl) rfl), (zg_4_4 _ (List.mem_of_getElem? (i := 4) rfl) rfl)⟩
theorem cw_X7_end : zCW mX7_end 1 := ⟨(zg_4_4 _ (List.mem_of_getElem? (i := 13) rfl) rfl), ini_X7, by decide +kernel, by decide, by decide +kernel⟩
theorem iw_X7_end : zIW mX7_end := ⟨(zg_4_4 _ (List.mem_of_getElem? (i := 11) rfl) rfl), (zg_4_4 _ (List.mem_of_getElem? (i := 12) rfl) rfl)⟩
theorem cw_X7_requires : zCW mX7_requires 2 := ⟨(zg_4_5 _ (List.mem_of_getElem? (i := 1) rfl) rfl), ini_X7, by decide +kernel, by decide, by decide +kernel⟩
theorem iw_X7_requires : zIW mX7_requires := ⟨(zg_4_5 _ (List.mem_of_getElem? (i := 0) rfl) rfl), (zg_s_0 _ (List.mem_of_getElem? (i := 28) rfl) rfl)⟩
theorem cw_X7_byteAt : zCW mX7_byteAt 1 := ⟨(zg_4_4 _ (List.mem_of_getElem? (i := 25) rfl) rfl), ini_X7, by decide +kernel, by decide, by decide +kernel⟩
theorem iw_X7_byteAt : zIW mX7_byteAt := ⟨(zg_4_4 _ (List.mem_of_getElem? (i := 24) rfl) rfl), (zg_s_0 _ (List.mem_of_getElem? (i := 27) rfl) rfl)⟩
theorem cw_X7_is : zCW mX7_is 4 := ⟨(zg_4_5 _ (List.mem_of_getElem? (i := 13) rfl) rfl), ini_X7, by decide +kernel, by decide, by decide +kernel⟩
theorem iw_X7_is : zIW mX7_is := ⟨(zg_4_5 _ (List.mem_of_getElem? (i := 12) rfl) rfl), (zg_s_0 _ (List.mem_of_getElem? (i := 31) rfl) rfl)⟩
theorem cw_X7_endsIn : zCW mX7_endsIn 2 := ⟨(zg_4_5 _ (List.mem_of_getElem? (i := 17) rfl) rfl), ini_X7, by decide +kernel, by decide, by decide +kernel⟩
theorem iw_X7_endsIn : zIW mX7_endsIn := ⟨(zg_4_5 _ (List.mem_of_getElem? (i := 16) rfl) rfl), (zg_s_1 _ (List.mem_of_getElem? (i := 0) rfl) rfl)⟩
theorem cw_X7_lineNow : zCW mX7_lineNow 0 := ⟨(zg_4_5 _ (List.mem_of_getElem? (i := 9) rfl) rfl), ini_X7, by decide +kernel, by decide, by decide +kernel⟩
theorem iw_X7_lineNow : zIW mX7_lineNow := ⟨(zg_4_5 _ (List.mem_of_getElem? (i := 8) rfl) rfl), (zg_s_0 _ (List.mem_of_getElem? (i := 30) rfl) rfl)⟩
theorem cw_X7_reads : zCW mX7_reads 0 := ⟨(zg_4_4 _ (List.mem_of_getElem? (i := 21) rfl) rfl), ini_X7, by decide +kernel, by decide, by decide +kernel⟩
theorem iw_X7_reads : zIW mX7_reads := ⟨(zg_4_4 _ (List.mem_of_getElem? (i := 20) rfl) rfl), (zg_s_0 _ (List.mem_of_getElem? (i := 26) rfl) rfl)⟩
theorem cw_X7_readNumber : zCW mX7_readNumber 2 := ⟨(zg_4_5 _ (List.mem_of_getElem? (i := 29) rfl) rfl), ini_X7, by decide +kernel, by decide, by decide +kernel⟩
theorem iw_X7_readNumber : zIW mX7_readNumber := ⟨(zg_4_5 _ (List.mem_of_getElem? (i := 28) rfl) rfl), (zg_s_1 _ (List.mem_of_getElem? (i := 3) rfl) rfl)⟩
theorem cw_X7_readBand : zCW mX7_readBand 0 := ⟨(zg_4_5 _ (List.mem_of_getElem? (i := 25) rfl) rfl), ini_X7, by decide +kernel, by decide, by decide +kernel⟩
theorem iw_X7_readBand : zIW mX7_readBand := ⟨(zg_4_5 _ (List.mem_of_getElem? (i := 24) rfl) rfl), (zg_s_1 _ (List.mem_of_getElem? (i := 2) rfl) rfl)⟩
theorem cw_X7_readLineOf : zCW mX7_readLineOf 1 := ⟨(zg_4_5 _ (List.mem_of_getElem? (i := 21) rfl) rfl), ini_X7, by decide +kernel, by decide, by decide +kernel⟩
theorem iw_X7_readLineOf : zIW mX7_readLineOf := ⟨(zg_4_5 _ (List.mem_of_getElem? (i := 20) rfl) rfl), (zg_s_1 _ (List.mem_of_getElem? (i := 1) rfl) rfl)⟩
theorem cw_X7_readLine : zCW mX7_readLine 0 := ⟨(zg_4_5 _ (List.mem_of_getElem? (i := 5) rfl) rfl), ini_X7, by decide +kernel, by decide, by decide +kernel⟩
theorem iw_X7_readLine : zIW mX7_readLine := ⟨(zg_4_5 _ (List.mem_of_getElem? (i := 4) rfl) rfl), (zg_s_0 _ (List.mem_of_getElem? (i := 29) rfl) rfl)⟩
theorem cw_X7_text : zCW mX7_text 0 := ⟨(zg_4_4 _ (List.mem_of_getElem? (i := 17) rfl) rfl), ini_X7, by decide +kernel, by decide, by decide +kernel⟩
theorem iw_X7_text : zIW mX7_text := ⟨(zg_4_4 _ (List.mem_of_getElem? (i := 15) rfl) rfl), (zg_4_4 _ (List.mem_of_getElem? (i := 16) rfl) rfl)⟩
theorem cw_X7_fault : zCW mX7_fault 0 := ⟨(zg_4_6 _ (List.mem_of_getElem? (i := 1) rfl) rfl), ini_X7, by decide +kernel, by decide, by decide +kernel⟩
theorem iw_X7_fault : zIW mX7_fault := ⟨(zg_4_5 _ (List.mem_of_getElem? (i := 31) rfl) rfl), (zg_4_6 _ (List.mem_of_getElem? (i := 0) rfl) rfl)⟩
theorem cw_X7_isField : zCW mX7_isField 1 := ⟨(zg_4_7 _ (List.mem_of_getElem? (i := 4) rfl) rfl), ini_X7, by decide +kernel, by decide, by decide +kernel⟩
theorem iw_X7_isField : zIW mX7_isField := ⟨(zg_4_7 _ (List.mem_of_getElem? (i := 3) rfl) rfl), (zg_s_1 _ (List.mem_of_getElem? (i := 9) rfl) rfl)⟩
theorem cw_X7_isBand : zCW mX7_isBand 1 := ⟨(zg_5_0 _ (List.mem_of_getElem? (i := 4) rfl) rfl), ini_X7, by decide +kernel, by decide, by decide +kernel⟩
theorem iw_X7_isBand : zIW mX7_isBand := ⟨(zg_5_0 _ (List.mem_of_getElem? (i := 3) rfl) rfl), (zg_s_1 _ (List.mem_of_getElem? (i := 12) rfl) rfl)⟩
theorem cw_X7_isPart : zCW mX7_isPart 1 := ⟨(zg_5_0 _ (List.mem_of_getElem? (i := 7) rfl) rfl), ini_X7, by decide +kernel, by decide, by decide +kernel⟩
theorem sw_X7_isPart : zSW mX7_isPart := (zg_5_0 _ (List.mem_of_getElem? (i := 6) rfl) rfl)
theorem cw_X7_areEars : zCW mX7_areEars 1 := ⟨(zg_5_0 _ (List.mem_of_getElem? (i := 15) rfl) rfl), ini_X7, by decide +kernel, by decide, by decide +kernel⟩
theorem sw_X7_areEars : zSW mX7_areEars := (zg_5_0 _ (List.mem_of_getElem? (i := 14) rfl) rfl)
theorem cw_X7_starts : zCW mX7_starts 0 := ⟨(zg_4_6 _ (List.mem_of_getElem? (i := 9) rfl) rfl), ini_X7, by decide +kernel, by decide, by decide +kernel⟩
theorem iw_X7_starts : zIW mX7_starts := ⟨(zg_4_6 _ (List.mem_of_getElem? (i := 8) rfl) rfl), (zg_s_1 _ (List.mem_of_getElem? (i := 4) rfl) rfl)⟩
theorem cw_X7_settles : zCW mX7_settles 0 := ⟨(zg_5_2 _ (List.mem_of_getElem? (i := 9) rfl) rfl), ini_X7, by decide +kernel, by decide, by decide +kernel⟩
theorem iw_X7_settles : zIW mX7_settles := ⟨(zg_5_2 _ (List.mem_of_getElem? (i := 8) rfl) rfl), (zg_s_1 _ (List.mem_of_getElem? (i := 19) rfl) rfl)⟩
theorem cw_X7_of : zCW mX7_of 2 := ⟨(zg_4_6 _ (List.mem_of_getElem? (i := 28) rfl) rfl), ini_X7, by decide +kernel, by decide, by decide +kernel⟩
theorem iw_X7_of : zIW mX7_of := ⟨(zg_4_6 _ (List.mem_of_getElem? (i := 27) rfl) rfl), (zg_s_1 _ (List.mem_of_getElem? (i := 8) rfl) rfl)⟩
theorem cw_X7_becomesOf : zCW mX7_becomesOf 3 := ⟨(zg_5_2 _ (List.mem_of_getElem? (i := 1) rfl) rfl), ini_X7, by decide +kernel, by decide, by decide +kernel⟩
theorem iw_X7_becomesOf : zIW mX7_becomesOf := ⟨(zg_5_2 _ (List.mem_of_getElem? (i := 0) rfl) rfl), (zg_s_1 _ (List.mem_of_getElem? (i := 17) rfl) rfl)⟩
theorem cw_X7_ofBand : zCW mX7_ofBand 2 := ⟨(zg_4_6 _ (List.mem_of_getElem? (i := 17) rfl) rfl), ini_X7, by decide +kernel, by decide, by decide +kernel⟩
theorem iw_X7_ofBand : zIW mX7_ofBand := ⟨(zg_4_6 _ (List.mem_of_getElem? (i := 16) rfl) rfl), (zg_s_1 _ (List.mem_of_getElem? (i := 6) rfl) rfl)⟩
theorem cw_X7_bandBecomes : zCW mX7_bandBecomes 3 := ⟨(zg_5_3 _ (List.mem_of_getElem? (i := 16) rfl) rfl), ini_X7, by decide +kernel, by decide, by decide +kernel⟩
theorem iw_X7_bandBecomes : zIW mX7_bandBecomes := ⟨(zg_5_3 _ (List.mem_of_getElem? (i := 15) rfl) rfl), (zg_s_1 _ (List.mem_of_getElem? (i := 23) rfl) rfl)⟩
theorem cw_X7_heardAt : zCW mX7_heardAt 1 := ⟨(zg_4_6 _ (List.mem_of_getElem? (i := 13) rfl) rfl), ini_X7, by decide +kernel, by decide, by decide +kernel⟩
theorem iw_X7_heardAt : zIW mX7_heardAt := ⟨(zg_4_6 _ (List.mem_of_getElem? (i := 12) rfl) rfl), (zg_s_1 _ (List.mem_of_getElem? (i := 5) rfl) rfl)⟩
theorem cw_X7_growsBy : zCW mX7_growsBy 1 := ⟨(zg_4_7 _ (List.mem_of_getElem? (i := 8) rfl) rfl), ini_X7, by decide +kernel, by decide, by decide +kernel⟩
theorem iw_X7_growsBy : zIW mX7_growsBy := ⟨(zg_4_7 _ (List.mem_of_getElem? (i := 7) rfl) rfl), (zg_s_1 _ (List.mem_of_getElem? (i := 10) rfl) rfl)⟩
theorem cw_X7_heeds : zCW mX7_heeds 1 := ⟨(zg_4_7 _ (List.mem_of_getElem? (i := 12) rfl) rfl), ini_X7, by decide +kernel, by decide, by decide +kernel⟩
theorem iw_X7_heeds : zIW mX7_heeds := ⟨(zg_4_7 _ (List.mem_of_getElem? (i := 11) rfl) rfl), (zg_s_1 _ (List.mem_of_getElem? (i := 11) rfl) rfl)⟩
theorem cw_X7_fieldGoes : zCW mX7_fieldGoes 1 := ⟨(zg_5_2 _ (List.mem_of_getElem? (i := 5) rfl) rfl), ini_X7, by decide +kernel, by decide, by decide +kernel⟩
theorem iw_X7_fieldGoes : zIW mX7_fieldGoes := ⟨(zg_5_2 _ (List.mem_of_getElem? (i := 4) rfl) rfl), (zg_s_1 _ (List.mem_of_getElem? (i := 18) rfl) rfl)⟩
theorem cw_X7_weekGoes : zCW mX7_weekGoes 1 := ⟨(zg_5_1 _ (List.mem_of_getElem? (i := 26) rfl) rfl), ini_X7, by decide +kernel, by decide, by decide +kernel⟩
theorem iw_X7_weekGoes : zIW mX7_weekGoes := ⟨(zg_5_1 _ (List.mem_of_getElem? (i := 25) rfl) rfl), (zg_s_1 _ (List.mem_of_getElem? (i := 16) rfl) rfl)⟩
theorem cw_X7_weeksGo : zCW mX7_weeksGo 1 := ⟨(zg_5_1 _ (List.mem_of_getElem? (i := 22) rfl) rfl), ini_X7, by decide +kernel, by decide, by decide +kernel⟩
theorem iw_X7_weeksGo : zIW mX7_weeksGo := ⟨(zg_5_1 _ (List.mem_of_getElem? (i := 21) rfl) rfl), (zg_s_1 _ (List.mem_of_getElem? (i := 15) rfl) rfl)⟩
theorem cw_X7_sumOf : zCW mX7_sumOf 1 := ⟨(zg_4_6 _ (List.mem_of_getElem? (i := 24) rfl) rfl), ini_X7, by decide +kernel, by decide, by decide +kernel⟩
theorem iw_X7_sumOf : zIW mX7_sumOf := ⟨(zg_4_6 _ (List.mem_of_getElem? (i := 23) rfl) rfl), (zg_s_1 _ (List.mem_of_getElem? (i := 7) rfl) rfl)⟩
theorem cw_X7_earsBehind : zCW mX7_earsBehind 1 := ⟨(zg_5_1 _ (List.mem_of_getElem? (i := 18) rfl) rfl), ini_X7, by decide +kernel, by decide, by decide +kernel⟩
theorem iw_X7_earsBehind : zIW mX7_earsBehind := ⟨(zg_5_1 _ (List.mem_of_getElem? (i := 17) rfl) rfl), (zg_s_1 _ (List.mem_of_getElem? (i := 14) rfl) rfl)⟩
theorem cw_X7_emptyNow : zCW mX7_emptyNow 0 := ⟨(zg_5_2 _ (List.mem_of_getElem? (i := 22) rfl) rfl), ini_X7, by decide +kernel, by decide, by decide +kernel⟩
theorem iw_X7_emptyNow : zIW mX7_emptyNow := ⟨(zg_5_2 _ (List.mem_of_getElem? (i := 21) rfl) rfl), (zg_s_1 _ (List.mem_of_getElem? (i := 20) rfl) rfl)⟩
theorem cw_X7_rule : zCW mX7_rule 1 := ⟨(zg_4_6 _ (List.mem_of_getElem? (i := 5) rfl) rfl), ini_X7, by decide +kernel, by decide, by decide +kernel⟩
theorem iw_X7_rule : zIW mX7_rule := ⟨(zg_4_6 _ (List.mem_of_getElem? (i := 3) rfl) rfl), (zg_4_6 _ (List.mem_of_getElem? (i := 4) rfl) rfl)⟩
theorem cw_X7_field : zCW mX7_field 2 := ⟨(zg_4_7 _ (List.mem_of_getElem? (i := 0) rfl) rfl), ini_X7, by decide +kernel, by decide, by decide +kernel⟩
theorem iw_X7_field : zIW mX7_field := ⟨(zg_4_6 _ (List.mem_of_getElem? (i := 30) rfl) rfl), (zg_4_6 _ (List.mem_of_getElem? (i := 31) rfl) rfl)⟩
theorem cw_X7_band : zCW mX7_band 2 := ⟨(zg_5_0 _ (List.mem_of_getElem? (i := 0) rfl) rfl), ini_X7, by decide +kernel, by decide, by decide +kernel⟩
theorem iw_X7_band : zIW mX7_band := ⟨(zg_4_7 _ (List.mem_of_getElem? (i := 14) rfl) rfl), (zg_4_7 _ (List.mem_of_getElem? (i := 15) rfl) rfl)⟩
theorem cw_X7_becomes : zCW mX7_becomes 2 := ⟨(zg_5_0 _ (List.mem_of_getElem? (i := 21) rfl) rfl), ini_X7, by decide +kernel, by decide, by decide +kernel⟩
theorem iw_X7_becomes : zIW mX7_becomes := ⟨(zg_5_0 _ (List.mem_of_getElem? (i := 20) rfl) rfl), (zg_s_1 _ (List.mem_of_getElem? (i := 13) rfl) rfl)⟩
theorem cw_X7_alter : zCW mX7_alter 3 := ⟨(zg_5_0 _ (List.mem_of_getElem? (i := 11) rfl) rfl), ini_X7, by decide +kernel, by decide, by decide +kernel⟩
theorem iw_X7_alter : zIW mX7_alter := ⟨(zg_5_0 _ (List.mem_of_getElem? (i := 9) rfl) rfl), (zg_5_0 _ (List.mem_of_getElem? (i := 10) rfl) rfl)⟩
theorem cw_X7_march : zCW mX7_march 2 := ⟨(zg_5_0 _ (List.mem_of_getElem? (i := 25) rfl) rfl), ini_X7, by decide +kernel, by decide, by decide +kernel⟩
theorem iw_X7_march : zIW mX7_march := ⟨(zg_5_0 _ (List.mem_of_getElem? (i := 23) rfl) rfl), (zg_5_0 _ (List.mem_of_getElem? (i := 24) rfl) rfl)⟩
theorem cw_X7_play : zCW mX7_play 2 := ⟨(zg_5_0 _ (List.mem_of_getElem? (i := 29) rfl) rfl), ini_X7, by decide +kernel, by decide, by decide +kernel⟩
theorem iw_X7_play : zIW mX7_play := ⟨(zg_5_0 _ (List.mem_of_getElem? (i := 27) rfl) rfl), (zg_5_0 _ (List.mem_of_getElem? (i := 28) rfl) rfl)⟩
theorem cw_X7_glut : zCW mX7_glut 1 := ⟨(zg_5_1 _ (List.mem_of_getElem? (i := 1) rfl) rfl), ini_X7, by decide +kernel, by decide, by decide +kernel⟩
theorem iw_X7_glut : zIW mX7_glut := ⟨(zg_5_0 _ (List.mem_of_getElem? (i := 31) rfl) rfl), (zg_5_1 _ (List.mem_of_getElem? (i := 0) rfl) rfl)⟩
theorem cw_X7_hire : zCW mX7_hire 2 := ⟨(zg_5_1 _ (List.mem_of_getElem? (i := 5) rfl) rfl), ini_X7, by decide +kernel, by decide, by decide +kernel⟩
theorem iw_X7_hire : zIW mX7_hire := ⟨(zg_5_1 _ (List.mem_of_getElem? (i := 3) rfl) rfl), (zg_5_1 _ (List.mem_of_getElem? (i := 4) rfl) rfl)⟩
theorem cw_X7_leave : zCW mX7_leave 1 := ⟨(zg_5_1 _ (List.mem_of_getElem? (i := 9) rfl) rfl), ini_X7, by decide +kernel, by decide, by decide +kernel⟩
theorem iw_X7_leave : zIW mX7_leave := ⟨(zg_5_1 _ (List.mem_of_getElem? (i := 7) rfl) rfl), (zg_5_1 _ (List.mem_of_getElem? (i := 8) rfl) rfl)⟩
theorem cw_X7_weeks : zCW mX7_weeks 1 := ⟨(zg_5_1 _ (List.mem_of_getElem? (i := 13) rfl) rfl), ini_X7, by decide +kernel, by decide, by decide +kernel⟩
theorem iw_X7_weeks : zIW mX7_weeks := ⟨(zg_5_1 _ (List.mem_of_getElem? (i := 11) rfl) rfl), (zg_5_1 _ (List.mem_of_getElem? (i := 12) rfl) rfl)⟩
theorem cw_X7_isFar : zCW mX7_isFar 1 := ⟨(zg_5_2 _ (List.mem_of_getElem? (i := 16) rfl) rfl), ini_X7, by decide +kernel, by decide, by decide +kernel⟩
theorem sw_X7_isFar : zSW mX7_isFar := (zg_5_2 _ (List.mem_of_getElem? (i := 15) rfl) rfl)
theorem cw_X7_runs : zCW mX7_runs 2 := ⟨(zg_5_2 _ (List.mem_of_getElem? (i := 13) rfl) rfl), ini_X7, by decide +kernel, by decide, by decide +kernel⟩
theorem iw_X7_runs : zIW mX7_runs := ⟨(zg_5_2 _ (List.mem_of_getElem? (i := 11) rfl) rfl), (zg_5_2 _ (List.mem_of_getElem? (i := 12) rfl) rfl)⟩
theorem cw_X7_ahead : zCW mX7_ahead 3 := ⟨(zg_5_2 _ (List.mem_of_getElem? (i := 26) rfl) rfl), ini_X7, by decide +kernel, by decide, by decide +kernel⟩
theorem iw_X7_ahead : zIW mX7_ahead := ⟨(zg_5_2 _ (List.mem_of_getElem? (i := 24) rfl) rfl), (zg_5_2 _ (List.mem_of_getElem? (i := 25) rfl) rfl)⟩
theorem cw_X7_late : zCW mX7_late 2 := ⟨(zg_5_2 _ (List.mem_of_getElem? (i := 30) rfl) rfl), ini_X7, by decide +kernel, by decide, by decide +kernel⟩
theorem iw_X7_late : zIW mX7_late := ⟨(zg_5_2 _ (List.mem_of_getElem? (i := 28) rfl) rfl), (zg_5_2 _ (List.mem_of_getElem? (i := 29) rfl) rfl)⟩
theorem cw_X7_startsJudging : zCW mX7_startsJudging 1 := ⟨(zg_5_3 _ (List.mem_of_getElem? (i := 12) rfl) rfl), ini_X7, by decide +kernel, by decide, by decide +kernel⟩
theorem iw_X7_startsJudging : zIW mX7_startsJudging := ⟨(zg_5_3 _ (List.mem_of_getElem? (i := 11) rfl) rfl), (zg_s_1 _ (List.mem_of_getElem? (i := 22) rfl) rfl)⟩
theorem cw_X7_judges : zCW mX7_judges 2 := ⟨(zg_5_3 _ (List.mem_of_getElem? (i := 20) rfl) rfl), ini_X7, by decide +kernel, by decide, by decide +kernel⟩
theorem iw_X7_judges : zIW mX7_judges := ⟨(zg_5_3 _ (List.mem_of_getElem? (i := 19) rfl) rfl), (zg_s_1 _ (List.mem_of_getElem? (i := 24) rfl) rfl)⟩
theorem cw_X7_judged : zCW mX7_judged 1 := ⟨(zg_5_3 _ (List.mem_of_getElem? (i := 28) rfl) rfl), ini_X7, by decide +kernel, by decide, by decide +kernel⟩
theorem iw_X7_judged : zIW mX7_judged := ⟨(zg_5_3 _ (List.mem_of_getElem? (i := 27) rfl) rfl), (zg_s_1 _ (List.mem_of_getElem? (i := 25) rfl) rfl)⟩
theorem cw_X7_findOrder : zCW mX7_findOrder 0 := ⟨(zg_5_3 _ (List.mem_of_getElem? (i := 8) rfl) rfl), ini_X7, by decide +kernel, by decide, by decide +kernel⟩
theorem iw_X7_findOrder : zIW mX7_findOrder := ⟨(zg_5_3 _ (List.mem_of_getElem? (i := 7) rfl) rfl), (zg_s_1 _ (List.mem_of_getElem? (i := 21) rfl) rfl)⟩
theorem cw_X7_order : zCW mX7_order 1 := ⟨(zg_5_3 _ (List.mem_of_getElem? (i := 2) rfl) rfl), ini_X7, by decide +kernel, by decide, by decide +kernel⟩
theorem iw_X7_order : zIW mX7_order := ⟨(zg_5_3 _ (List.mem_of_getElem? (i := 0) rfl) rfl), (zg_5_3 _ (List.mem_of_getElem? (i := 1) rfl) rfl)⟩
theorem cw_X7_move : zCW mX7_move 2 := ⟨(zg_5_3 _ (List.mem_of_getElem? (i := 24) rfl) rfl), ini_X7, by decide +kernel, by decide, by decide +kernel⟩
theorem iw_X7_move : zIW mX7_move := ⟨(zg_5_3 _ (List.mem_of_getElem? (i := 22) rfl) rfl), (zg_5_3 _ (List.mem_of_getElem? (i := 23) rfl) rfl)⟩
theorem cw_X7_still : zCW mX7_still 2 := ⟨(zg_5_4 _ (List.mem_of_getElem? (i := 0) rfl) rfl), ini_X7, by decide +kernel, by decide, by decide +kernel⟩
theorem iw_X7_still : zIW mX7_still := ⟨(zg_5_3 _ (List.mem_of_getElem? (i := 30) rfl) rfl), (zg_5_3 _ (List.mem_of_getElem? (i := 31) rfl) rfl)⟩
theorem cw_X7_need : zCW mX7_need 3 := ⟨(zg_5_4 _ (List.mem_of_getElem? (i := 4) rfl) rfl), ini_X7, by decide +kernel, by decide, by decide +kernel⟩
theorem iw_X7_need : zIW mX7_need := ⟨(zg_5_4 _ (List.mem_of_getElem? (i := 2) rfl) rfl), (zg_5_4 _ (List.mem_of_getElem? (i := 3) rfl) rfl)⟩
theorem cw_X7_swap : zCW mX7_swap 2 := ⟨(zg_5_4 _ (List.mem_of_getElem? (i := 8) rfl) rfl), ini_X7, by decide +kernel, by decide, by decide +kernel⟩
theorem iw_X7_swap : zIW mX7_swap := ⟨(zg_5_4 _ (List.mem_of_getElem? (i := 6) rfl) rfl), (zg_5_4 _ (List.mem_of_getElem? (i := 7) rfl) rfl)⟩
theorem cw_X7_bear : zCW mX7_bear 3 := ⟨(zg_5_4 _ (List.mem_of_getElem? (i := 12) rfl) rfl), ini_X7, by decide +kernel, by decide, by decide +kernel⟩
theorem iw_X7_bear : zIW mX7_bear := ⟨(zg_5_4 _ (List.mem_of_getElem? (i := 10) rfl) rfl), (zg_5_4 _ (List.mem_of_getElem? (i := 11) rfl) rfl)⟩
theorem cw_X7_kind : zCW mX7_kind 3 := ⟨(zg_5_4 _ (List.mem_of_getElem? (i := 16) rfl) rfl), ini_X7, by decide +kernel, by decide, by decide +kernel⟩
theorem iw_X7_kind : zIW mX7_kind := ⟨(zg_5_4 _ (List.mem_of_getElem? (i := 14) rfl) rfl), (zg_5_4 _ (List.mem_of_getElem? (i := 15) rfl) rfl)⟩
theorem cw_X7_common : zCW mX7_common 2 := ⟨(zg_5_5 _ (List.mem_of_getElem? (i := 0) rfl) rfl), ini_X7, by decide +kernel, by decide, by decide +kernel⟩
theorem sw_X7_common : zSW mX7_common := (zg_5_4 _ (List.mem_of_getElem? (i := 31) rfl) rfl)
theorem cw_X7_lowest : zCW mX7_lowest 3 := ⟨(zg_5_4 _ (List.mem_of_getElem? (i := 29) rfl) rfl), ini_X7, by decide +kernel, by decide, by decide +kernel⟩
theorem sw_X7_lowest : zSW mX7_lowest := (zg_5_4 _ (List.mem_of_getElem? (i := 28) rfl) rfl)
theorem cw_X7_findOdds : zCW mX7_findOdds 4 := ⟨(zg_5_4 _ (List.mem_of_getElem? (i := 26) rfl) rfl), ini_X7, by decide +kernel, by decide, by decide +kernel⟩
theorem iw_X7_findOdds : zIW mX7_findOdds := ⟨(zg_5_4 _ (List.mem_of_getElem? (i := 25) rfl) rfl), (zg_s_1 _ (List.mem_of_getElem? (i := 26) rfl) rfl)⟩
theorem cw_X7_luck : zCW mX7_luck 5 := ⟨(zg_5_4 _ (List.mem_of_getElem? (i := 20) rfl) rfl), ini_X7, by decide +kernel, by decide, by decide +kernel⟩
theorem iw_X7_luck : zIW mX7_luck := ⟨(zg_5_4 _ (List.mem_of_getElem? (i := 18) rfl) rfl), (zg_5_4 _ (List.mem_of_getElem? (i := 19) rfl) rfl)⟩
theorem cw_X7_mean : zCW mX7_mean 3 := ⟨(zg_5_5 _ (List.mem_of_getElem? (i := 4) rfl) rfl), ini_X7, by decide +kernel, by decide, by decide +kernel⟩
theorem iw_X7_mean : zIW mX7_mean := ⟨(zg_5_5 _ (List.mem_of_getElem? (i := 2) rfl) rfl), (zg_5_5 _ (List.mem_of_getElem? (i := 3) rfl) rfl)⟩
theorem cw_X7_see : zCW mX7_see 3 := ⟨(zg_5_5 _ (List.mem_of_getElem? (i := 8) rfl) rfl), ini_X7, by decide +kernel, by decide, by decide +kernel⟩
theorem iw_X7_see : zIW mX7_see := ⟨(zg_5_5 _ (List.mem_of_getElem? (i := 6) rfl) rfl), (zg_5_5 _ (List.mem_of_getElem? (i := 7) rfl) rfl)⟩
theorem cw_X7_forget : zCW mX7_forget 1 := ⟨(zg_5_5 _ (List.mem_of_getElem? (i := 13) rfl) rfl), ini_X7, by decide +kernel, by decide, by decide +kernel⟩
theorem iw_X7_forget : zIW mX7_forget := ⟨(zg_5_5 _ (List.mem_of_getElem? (i := 11) rfl) rfl), (zg_5_5 _ (List.mem_of_getElem? (i := 12) rfl) rfl)⟩
theorem cw_X7_isSoWith : zCW mX7_isSoWith 2 := ⟨(zg_5_5 _ (List.mem_of_getElem? (i := 25) rfl) rfl), ini_X7, by decide +kernel, by decide, by decide +kernel⟩
theorem iw_X7_isSoWith : zIW mX7_isSoWith := ⟨(zg_5_5 _ (List.mem_of_getElem? (i := 24) rfl) rfl), (zg_s_1 _ (List.mem_of_getElem? (i := 28) rfl) rfl)⟩
theorem cw_X7_which : zCW mX7_which 2 := ⟨(zg_5_5 _ (List.mem_of_getElem? (i := 21) rfl) rfl), ini_X7, by decide +kernel, by decide, by decide +kernel⟩
theorem iw_X7_which : zIW mX7_which := ⟨(zg_5_5 _ (List.mem_of_getElem? (i := 20) rfl) rfl), (zg_s_1 _ (List.mem_of_getElem? (i := 27) rfl) rfl)⟩
theorem cw_X7_kinds : zCW mX7_kinds 1 := ⟨(zg_5_5 _ (List.mem_of_getElem? (i := 17) rfl) rfl), ini_X7, by decide +kernel, by decide, by decide +kernel⟩
theorem iw_X7_kinds : zIW mX7_kinds := ⟨(zg_5_5 _ (List.mem_of_getElem? (i := 15) rfl) rfl), (zg_5_5 _ (List.mem_of_getElem? (i := 16) rfl) rfl)⟩
theorem cw_X7_blights : zCW mX7_blights 1 := ⟨(zg_5_5 _ (List.mem_of_getElem? (i := 29) rfl) rfl), ini_X7, by decide +kernel, by decide, by decide +kernel⟩
theorem iw_X7_blights : zIW mX7_blights := ⟨(zg_5_5 _ (List.mem_of_getElem? (i := 27) rfl) rfl), (zg_5_5 _ (List.mem_of_getElem? (i := 28) rfl) rfl)⟩
theorem cw_X7_ask : zCW mX7_ask 2 := ⟨(zg_5_6 _ (List.mem_of_getElem? (i := 1) rfl) rfl), ini_X7, by decide +kernel, by decide, by decide +kernel⟩
theorem iw_X7_ask : zIW mX7_ask := ⟨(zg_5_5 _ (List.mem_of_getElem? (i := 31) rfl) rfl), (zg_5_6 _ (List.mem_of_getElem? (i := 0) rfl) rfl)⟩
theorem cw_X7_drift : zCW mX7_drift 3 := ⟨(zg_5_6 _ (List.mem_of_getElem? (i := 5) rfl) rfl), ini_X7, by decide +kernel, by decide, by decide +kernel⟩
theorem iw_X7_drift : zIW mX7_drift := ⟨(zg_5_6 _ (List.mem_of_getElem? (i := 3) rfl) rfl), (zg_5_6 _ (List.mem_of_getElem? (i := 4) rfl) rfl)⟩
theorem cw_X7_copies : zCW mX7_copies 2 := ⟨(zg_5_6 _ (List.mem_of_getElem? (i := 14) rfl) rfl), ini_X7, by decide +kernel, by decide, by decide +kernel⟩
theorem iw_X7_copies : zIW mX7_copies := ⟨(zg_5_6 _ (List.mem_of_getElem? (i := 13) rfl) rfl), (zg_s_1 _ (List.mem_of_getElem? (i := 29) rfl) rfl)⟩
theorem cw_X7_keep : zCW mX7_keep 1 := ⟨(zg_5_6 _ (List.mem_of_getElem? (i := 10) rfl) rfl), ini_X7, by decide +kernel, by decide, by decide +kernel⟩
theorem iw_X7_keep : zIW mX7_keep := ⟨(zg_5_6 _ (List.mem_of_getElem? (i := 8) rfl) rfl), (zg_5_6 _ (List.mem_of_getElem? (i := 9) rfl) rfl)⟩
theorem cw_X7_back : zCW mX7_back 1 := ⟨(zg_5_6 _ (List.mem_of_getElem? (i := 18) rfl) rfl), ini_X7, by decide +kernel, by decide, by decide +kernel⟩
theorem iw_X7_back : zIW mX7_back := ⟨(zg_5_6 _ (List.mem_of_getElem? (i := 16) rfl) rfl), (zg_5_6 _ (List.mem_of_getElem? (i := 17) rfl) rfl)⟩
theorem cw_X7_isSheet : zCW mX7_isSheet 2 := ⟨(zg_5_6 _ (List.mem_of_getElem? (i := 25) rfl) rfl), ini_X7, by decide +kernel, by decide, by decide +kernel⟩
theorem sw_X7_isSheet : zSW mX7_isSheet := (zg_5_6 _ (List.mem_of_getElem? (i := 24) rfl) rfl)
theorem cw_X7_sheet : zCW mX7_sheet 3 := ⟨(zg_5_6 _ (List.mem_of_getElem? (i := 22) rfl) rfl), ini_X7, by decide +kernel, by decide, by decide +kernel⟩
theorem iw_X7_sheet : zIW mX7_sheet := ⟨(zg_5_6 _ (List.mem_of_getElem? (i := 20) rfl) rfl), (zg_5_6 _ (List.mem_of_getElem? (i := 21) rfl) rfl)⟩
theorem cw_X7_lay : zCW mX7_lay 3 := ⟨(zg_5_6 _ (List.mem_of_getElem? (i := 30) rfl) rfl), ini_X7, by decide +kernel, by decide, by decide +kernel⟩
theorem iw_X7_lay : zIW mX7_lay := ⟨(zg_5_6 _ (List.mem_of_getElem? (i := 28) rfl) rfl), (zg_5_6 _ (List.mem_of_getElem? (i := 29) rfl) rfl)⟩
theorem cw_X7_read : zCW mX7_read 4 := ⟨(zg_5_7 _ (List.mem_of_getElem? (i := 2) rfl) rfl), ini_X7, by decide +kernel, by decide, by decide +kernel⟩
theorem iw_X7_read : zIW mX7_read := ⟨(zg_5_7 _ (List.mem_of_getElem? (i := 0) rfl) rfl), (zg_5_7 _ (List.mem_of_getElem? (i := 1) rfl) rfl)⟩
theorem cw_X7_torn : zCW mX7_torn 0 := ⟨(zg_5_7 _ (List.mem_of_getElem? (i := 7) rfl) rfl), ini_X7, by decide +kernel, by decide, by decide +kernel⟩
theorem iw_X7_torn : zIW mX7_torn := ⟨(zg_5_7 _ (List.mem_of_getElem? (i := 5) rfl) rfl), (zg_5_7 _ (List.mem_of_getElem? (i := 6) rfl) rfl)⟩
theorem cw_X7_count : zCW mX7_count 1 := ⟨(zg_5_7 _ (List.mem_of_getElem? (i := 11) rfl) rfl), ini_X7, by decide +kernel, by decide, by decide +kernel⟩
theorem iw_X7_count : zIW mX7_count := ⟨(zg_5_7 _ (List.mem_of_getElem? (i := 9) rfl) rfl), (zg_5_7 _ (List.mem_of_getElem? (i := 10) rfl) rfl)⟩
theorem cw_J0_length_8abf5 : zCW mJ0_length_8abf5 0 := ⟨(zg_2_2 _ (List.mem_of_getElem? (i := 9) rfl) rfl), ini_J0, by decide +kernel, by decide, by decide +kernel⟩
theorem iw_J0_length_8abf5 : zIW mJ0_length_8abf5 := ⟨(zg_2_2 _ (List.mem_of_getElem? (i := 7) rfl) rfl), (zg_2_2 _ (List.mem_of_getElem? (i := 8) rfl) rfl)⟩
theorem cw_J0_charAt_5068e : zCW mJ0_charAt_5068e 1 := ⟨(zg_2_2 _ (List.mem_of_getElem? (i := 19) rfl) rfl), ini_J0, by decide +kernel, by decide, by decide +kernel⟩
theorem iw_J0_charAt_5068e : zIW mJ0_charAt_5068e := ⟨(zg_2_2 _ (List.mem_of_getElem? (i := 17) rfl) rfl), (zg_2_2 _ (List.mem_of_getElem? (i := 18) rfl) rfl)⟩
theorem cw_J0_coder_7d493 : zCW mJ0_coder_7d493 0 := ⟨(zg_2_2 _ (List.mem_of_getElem? (i := 13) rfl) rfl), ini_J0, by decide +kernel, by decide, by decide +kernel⟩
theorem iw_J0_coder_7d493 : zIW mJ0_coder_7d493 := ⟨(zg_2_2 _ (List.mem_of_getElem? (i := 11) rfl) rfl), (zg_2_2 _ (List.mem_of_getElem? (i := 12) rfl) rfl)⟩
theorem cw_J0_isLatin1_aae02 : zCW mJ0_isLatin1_aae02 0 := ⟨(zg_2_2 _ (List.mem_of_getElem? (i := 23) rfl) rfl), ini_J0, by decide +kernel, by decide, by decide +kernel⟩
theorem iw_J0_isLatin1_aae02 : zIW mJ0_isLatin1_aae02 := ⟨(zg_2_2 _ (List.mem_of_getElem? (i := 21) rfl) rfl), (zg_2_2 _ (List.mem_of_getElem? (i := 22) rfl) rfl)⟩
theorem cw_J0_checkIndex_df160 : zCW mJ0_checkIndex_df160 2 := ⟨(zg_2_2 _ (List.mem_of_getElem? (i := 29) rfl) rfl), ini_J0, by decide +kernel, by decide, by decide +kernel⟩
theorem sw_J0_checkIndex_df160 : zSW mJ0_checkIndex_df160 := (zg_2_2 _ (List.mem_of_getElem? (i := 28) rfl) rfl)
theorem cw_J1_charAt_3b067 : zCW mJ1_charAt_3b067 2 := ⟨(zg_2_2 _ (List.mem_of_getElem? (i := 26) rfl) rfl), ini_J1, by decide +kernel, by decide, by decide +kernel⟩
theorem sw_J1_charAt_3b067 : zSW mJ1_charAt_3b067 := (zg_2_2 _ (List.mem_of_getElem? (i := 25) rfl) rfl)
theorem cw_J2_getChar_3b067 : zCW mJ2_getChar_3b067 2 := ⟨(zg_2_3 _ (List.mem_of_getElem? (i := 15) rfl) rfl), ini_J2, by decide +kernel, by decide, by decide +kernel⟩
theorem sw_J2_getChar_3b067 : zSW mJ2_getChar_3b067 := (zg_2_3 _ (List.mem_of_getElem? (i := 14) rfl) rfl)
theorem cw_J2_length_9d52b : zCW mJ2_length_9d52b 1 := ⟨(zg_2_3 _ (List.mem_of_getElem? (i := 11) rfl) rfl), ini_J2, by decide +kernel, by decide, by decide +kernel⟩
theorem sw_J2_length_9d52b : zSW mJ2_length_9d52b := (zg_2_3 _ (List.mem_of_getElem? (i := 10) rfl) rfl)
theorem cw_J2_charAt_3b067 : zCW mJ2_charAt_3b067 2 := ⟨(zg_2_3 _ (List.mem_of_getElem? (i := 5) rfl) rfl), ini_J2, by decide +kernel, by decide, by decide +kernel⟩
theorem sw_J2_charAt_3b067 : zSW mJ2_charAt_3b067 := (zg_2_3 _ (List.mem_of_getElem? (i := 4) rfl) rfl)
theorem cw_J2_checkIndex_2214a : zCW mJ2_checkIndex_2214a 2 := ⟨(zg_2_3 _ (List.mem_of_getElem? (i := 8) rfl) rfl), ini_J2, by decide +kernel, by decide, by decide +kernel⟩
theorem sw_J2_checkIndex_2214a : zSW mJ2_checkIndex_2214a := (zg_2_3 _ (List.mem_of_getElem? (i := 7) rfl) rfl)
theorem cw_J3_checkIndex_8e157 : zCW mJ3_checkIndex_8e157 3 := ⟨(zg_2_3 _ (List.mem_of_getElem? (i := 2) rfl) rfl), ini_J3, by decide +kernel, by decide, by decide +kernel⟩
theorem sw_J3_checkIndex_8e157 : zSW mJ3_checkIndex_8e157 := (zg_2_3 _ (List.mem_of_getElem? (i := 1) rfl) rfl)
theorem ml_L_9 : zML RL 9 mX6_init := (zg_1_0 _ (List.mem_of_getElem? (i := 17) rfl) rfl)
theorem ml_X6_9 : zMN RX6 9 mX2_init RX6 := (zg_1_0 _ (List.mem_of_getElem? (i := 25) rfl) rfl)
theorem ml_X6_29 : zMN RX6 29 mX5_init RX6 := (zg_1_3 _ (List.mem_of_getElem? (i := 1) rfl) rfl)
theorem ml_X6_36 : zMN RX6 36 mX3_init RX6 := (zg_1_4 _ (List.mem_of_getElem? (i := 8) rfl) rfl)
theorem ml_X6_43 : zMN RX6 43 mX1_init RX6 := (zg_1_5 _ (List.mem_of_getElem? (i := 3) rfl) rfl)
theorem ml_X6_50 : zMN RX6 50 mX0_init RX6 := (zg_1_5 _ (List.mem_of_getElem? (i := 23) rfl) rfl)
theorem ml_X6_57 : zMN RX6 57 mX4_init RX6 := (zg_1_6 _ (List.mem_of_getElem? (i := 8) rfl) rfl)
theorem ml_L_13 : zML RL 13 mX6_feed := (zg_2_0 _ (List.mem_of_getElem? (i := 7) rfl) rfl)
theorem ml_X6_66 : zML RX6 66 mX6_within := (zg_2_0 _ (List.mem_of_getElem? (i := 11) rfl) rfl)
theorem ml_X6_70 : zML RX6 70 mX5_append := (zg_2_0 _ (List.mem_of_getElem? (i := 14) rfl) rfl)
theorem ml_L_18 : zML RL 18 mX6_end := (zg_2_0 _ (List.mem_of_getElem? (i := 18) rfl) rfl)
theorem ml_L_22 : zML RL 22 mX6_text := (zg_2_0 _ (List.mem_of_getElem? (i := 22) rfl) rfl)
theorem ml_X6_77 : zML RX6 77 mX5_tellAll := (zg_2_0 _ (List.mem_of_getElem? (i := 26) rfl) rfl)
theorem ml_X5_41 : zML RX5 41 mX2_clear := (zg_2_0 _ (List.mem_of_getElem? (i := 30) rfl) rfl)
theorem ml_X5_46 : zML RX5 46 mX5_nextToken := (zg_2_1 _ (List.mem_of_getElem? (i := 2) rfl) rfl)
theorem ml_X5_105 : zML RX5 105 mX5_stretch := (zg_2_1 _ (List.mem_of_getElem? (i := 6) rfl) rfl)
theorem ml_X5_109 : zML RX5 109 mX5_readNumber := (zg_2_1 _ (List.mem_of_getElem? (i := 10) rfl) rfl)
theorem ml_X5_113 : zML RX5 113 mJ9_max_7cf53 := (zg_2_1 _ (List.mem_of_getElem? (i := 14) rfl) rfl)
theorem ml_X5_49 : zML RX5 49 mX5_takeLine := (zg_2_1 _ (List.mem_of_getElem? (i := 17) rfl) rfl)
theorem ml_X5_67 : zML RX5 67 mX5_isToken := (zg_2_1 _ (List.mem_of_getElem? (i := 21) rfl) rfl)
theorem ml_X5_63 : zML RX5 63 mX5_refuse := (zg_2_1 _ (List.mem_of_getElem? (i := 25) rfl) rfl)
theorem ml_X5_71 : zML RX5 71 mX5_lineBegun := (zg_2_1 _ (List.mem_of_getElem? (i := 29) rfl) rfl)
theorem ml_X5_120 : zML RX5 120 mX5_isNamed := (zg_2_2 _ (List.mem_of_getElem? (i := 2) rfl) rfl)
theorem ml_X5_134 : zML RX5 134 mJ0_length_8abf5 := (zg_2_2 _ (List.mem_of_getElem? (i := 6) rfl) rfl)
theorem ml_J0_335 : zML RJ0 335 mJ0_coder_7d493 := (zg_2_2 _ (List.mem_of_getElem? (i := 10) rfl) rfl)
theorem ml_X5_138 : zML RX5 138 mJ0_charAt_5068e := (zg_2_2 _ (List.mem_of_getElem? (i := 16) rfl) rfl)
theorem ml_J0_492 : zML RJ0 492 mJ0_isLatin1_aae02 := (zg_2_2 _ (List.mem_of_getElem? (i := 20) rfl) rfl)
theorem ml_J0_495 : zML RJ0 495 mJ1_charAt_3b067 := (zg_2_2 _ (List.mem_of_getElem? (i := 24) rfl) rfl)
theorem ml_J1_9 : zML RJ1 9 mJ0_checkIndex_df160 := (zg_2_2 _ (List.mem_of_getElem? (i := 27) rfl) rfl)
theorem ml_J0_1059 : zML RJ0 1059 mJ3_checkIndex_8e157 := (zg_2_3 _ (List.mem_of_getElem? (i := 0) rfl) rfl)
theorem ml_J0_498 : zML RJ0 498 mJ2_charAt_3b067 := (zg_2_3 _ (List.mem_of_getElem? (i := 3) rfl) rfl)
theorem ml_J2_67 : zML RJ2 67 mJ2_checkIndex_2214a := (zg_2_3 _ (List.mem_of_getElem? (i := 6) rfl) rfl)
theorem ml_J2_48 : zML RJ2 48 mJ2_length_9d52b := (zg_2_3 _ (List.mem_of_getElem? (i := 9) rfl) rfl)
theorem ml_J2_414 : zML RJ2 414 mJ0_checkIndex_df160 := (zg_2_3 _ (List.mem_of_getElem? (i := 12) rfl) rfl)
theorem ml_J2_71 : zML RJ2 71 mJ2_getChar_3b067 := (zg_2_3 _ (List.mem_of_getElem? (i := 13) rfl) rfl)
theorem ml_X5_75 : zML RX5 75 mX5_takeGlut := (zg_2_3 _ (List.mem_of_getElem? (i := 27) rfl) rfl)
theorem ml_X5_85 : zML RX5 85 mX5_takeNumber := (zg_2_3 _ (List.mem_of_getElem? (i := 31) rfl) rfl)
theorem ml_X5_102 : zMN RX5 102 mX6_within RX6 := (zg_2_4 _ (List.mem_of_getElem? (i := 3) rfl) rfl)
theorem ml_X5_88 : zML RX5 88 mX5_takeSemicolon := (zg_2_4 _ (List.mem_of_getElem? (i := 4) rfl) rfl)
theorem ml_X5_78 : zML RX5 78 mX5_takeBand := (zg_2_4 _ (List.mem_of_getElem? (i := 8) rfl) rfl)
theorem ml_X5_96 : zML RX5 96 mX2_addBand := (zg_2_4 _ (List.mem_of_getElem? (i := 12) rfl) rfl)
theorem ml_X5_81 : zML RX5 81 mX5_takeField := (zg_2_4 _ (List.mem_of_getElem? (i := 16) rfl) rfl)
theorem ml_X5_92 : zML RX5 92 mX2_addField := (zg_2_4 _ (List.mem_of_getElem? (i := 20) rfl) rfl)
theorem ml_X6_84 : zML RX6 84 mX2_copyFrom := (zg_2_4 _ (List.mem_of_getElem? (i := 24) rfl) rfl)
theorem ml_L_27 : zML RL 27 mX6_fault := (zg_2_4 _ (List.mem_of_getElem? (i := 31) rfl) rfl)
theorem ml_L_31 : zML RL 31 mX6_rule := (zg_2_5 _ (List.mem_of_getElem? (i := 3) rfl) rfl)
theorem ml_X6_103 : zML RX6 103 mX2_allEars := (zg_2_5 _ (List.mem_of_getElem? (i := 7) rfl) rfl)
theorem ml_X2_61 : zML RX2 61 mX2_sumOf := (zg_2_5 _ (List.mem_of_getElem? (i := 11) rfl) rfl)
theorem ml_X6_110 : zML RX6 110 mX2_hearingFields := (zg_2_5 _ (List.mem_of_getElem? (i := 14) rfl) rfl)
theorem ml_L_35 : zML RL 35 mX6_field := (zg_2_5 _ (List.mem_of_getElem? (i := 18) rfl) rfl)
theorem ml_X6_113 : zML RX6 113 mX6_isField := (zg_2_5 _ (List.mem_of_getElem? (i := 22) rfl) rfl)
theorem ml_X6_116 : zML RX6 116 mX2_heardAt := (zg_2_5 _ (List.mem_of_getElem? (i := 26) rfl) rfl)
theorem ml_X6_130 : zML RX6 130 mX6_growth := (zg_2_5 _ (List.mem_of_getElem? (i := 30) rfl) rfl)
theorem ml_X6_134 : zML RX6 134 mX6_heed := (zg_2_6 _ (List.mem_of_getElem? (i := 1) rfl) rfl)
theorem ml_L_40 : zML RL 40 mX6_band := (zg_2_6 _ (List.mem_of_getElem? (i := 4) rfl) rfl)
theorem ml_X6_137 : zML RX6 137 mX6_isBand := (zg_2_6 _ (List.mem_of_getElem? (i := 8) rfl) rfl)
theorem ml_L_44 : zML RL 44 mX6_alter := (zg_2_6 _ (List.mem_of_getElem? (i := 12) rfl) rfl)
theorem ml_X6_146 : zML RX6 146 mX6_replace := (zg_2_6 _ (List.mem_of_getElem? (i := 16) rfl) rfl)
theorem ml_L_49 : zML RL 49 mX6_march := (zg_2_6 _ (List.mem_of_getElem? (i := 19) rfl) rfl)
theorem ml_L_53 : zML RL 53 mX6_play := (zg_2_6 _ (List.mem_of_getElem? (i := 23) rfl) rfl)
theorem ml_L_57 : zML RL 57 mX6_glut := (zg_2_6 _ (List.mem_of_getElem? (i := 27) rfl) rfl)
theorem ml_L_61 : zML RL 61 mX6_hire := (zg_2_6 _ (List.mem_of_getElem? (i := 31) rfl) rfl)
theorem ml_X6_150 : zML RX6 150 mX2_addBand := (zg_2_7 _ (List.mem_of_getElem? (i := 3) rfl) rfl)
theorem ml_L_65 : zML RL 65 mX6_leave := (zg_2_7 _ (List.mem_of_getElem? (i := 4) rfl) rfl)
theorem ml_L_69 : zML RL 69 mX6_weeks := (zg_2_7 _ (List.mem_of_getElem? (i := 8) rfl) rfl)
theorem ml_X6_154 : zML RX6 154 mX2_passWeeks := (zg_2_7 _ (List.mem_of_getElem? (i := 12) rfl) rfl)
theorem ml_X2_86 : zML RX2 86 mX2_passWeek := (zg_3_0 _ (List.mem_of_getElem? (i := 0) rfl) rfl)
theorem ml_X2_65 : zML RX2 65 mX2_heardAt := (zg_3_0 _ (List.mem_of_getElem? (i := 4) rfl) rfl)
theorem ml_X2_69 : zMN RX2 69 mX6_earsNext RX6 := (zg_3_0 _ (List.mem_of_getElem? (i := 5) rfl) rfl)
theorem ml_X6_277 : zML RX6 277 mJ9_min_7cf53 := (zg_3_0 _ (List.mem_of_getElem? (i := 8) rfl) rfl)
theorem ml_X6_282 : zML RX6 282 mJ9_max_7cf53 := (zg_3_0 _ (List.mem_of_getElem? (i := 11) rfl) rfl)
theorem ml_X2_73 : zMN RX2 73 mX6_blightNext RX6 := (zg_3_0 _ (List.mem_of_getElem? (i := 12) rfl) rfl)
theorem ml_X2_77 : zML RX2 77 mJ9_min_7cf53 := (zg_3_0 _ (List.mem_of_getElem? (i := 15) rfl) rfl)
theorem ml_X2_83 : zML RX2 83 mJ9_max_7cf53 := (zg_3_0 _ (List.mem_of_getElem? (i := 16) rfl) rfl)
theorem ml_L_73 : zML RL 73 mX6_runs := (zg_3_0 _ (List.mem_of_getElem? (i := 17) rfl) rfl)
theorem ml_X6_157 : zML RX6 157 mX2_allBlight := (zg_3_0 _ (List.mem_of_getElem? (i := 21) rfl) rfl)
theorem ml_X6_160 : zML RX6 160 mX2_earlessFields := (zg_3_0 _ (List.mem_of_getElem? (i := 25) rfl) rfl)
theorem ml_L_77 : zML RL 77 mX6_ahead := (zg_3_0 _ (List.mem_of_getElem? (i := 29) rfl) rfl)
theorem ml_X6_163 : zML RX6 163 mX2_earsIf := (zg_3_1 _ (List.mem_of_getElem? (i := 1) rfl) rfl)
theorem ml_X2_90 : zMN RX2 90 mX6_earsBehind RX6 := (zg_3_1 _ (List.mem_of_getElem? (i := 5) rfl) rfl)
theorem ml_X6_171 : zML RX6 171 mX6_earsNext := (zg_3_1 _ (List.mem_of_getElem? (i := 8) rfl) rfl)
theorem ml_X6_174 : zML RX6 174 mX6_blightNext := (zg_3_1 _ (List.mem_of_getElem? (i := 9) rfl) rfl)
theorem ml_X6_167 : zML RX6 167 mX6_blightBehind := (zg_3_1 _ (List.mem_of_getElem? (i := 10) rfl) rfl)
theorem ml_L_81 : zML RL 81 mX6_late := (zg_3_1 _ (List.mem_of_getElem? (i := 13) rfl) rfl)
theorem ml_L_85 : zML RL 85 mX6_order := (zg_3_1 _ (List.mem_of_getElem? (i := 17) rfl) rfl)
theorem ml_X6_177 : zML RX6 177 mX3_findBest := (zg_3_1 _ (List.mem_of_getElem? (i := 21) rfl) rfl)
theorem ml_X3_31 : zML RX3 31 mX3_weigh := (zg_3_1 _ (List.mem_of_getElem? (i := 25) rfl) rfl)
theorem ml_X3_58 : zML RX3 58 mX2_earsIf := (zg_3_1 _ (List.mem_of_getElem? (i := 29) rfl) rfl)
theorem ml_X3_35 : zML RX3 35 mX3_beginRows := (zg_3_1 _ (List.mem_of_getElem? (i := 30) rfl) rfl)
theorem ml_X3_52 : zML RX3 52 mX3_nextRow := (zg_3_2 _ (List.mem_of_getElem? (i := 3) rfl) rfl)
theorem ml_X3_62 : zML RX3 62 mX3_place := (zg_3_2 _ (List.mem_of_getElem? (i := 7) rfl) rfl)
theorem ml_X3_66 : zML RX3 66 mX3_toggle := (zg_3_2 _ (List.mem_of_getElem? (i := 11) rfl) rfl)
theorem ml_L_89 : zML RL 89 mX6_move := (zg_3_2 _ (List.mem_of_getElem? (i := 15) rfl) rfl)
theorem ml_X6_186 : zML RX6 186 mX2_gainBy := (zg_3_2 _ (List.mem_of_getElem? (i := 19) rfl) rfl)
theorem ml_X2_94 : zML RX2 94 mX2_earsIf := (zg_3_2 _ (List.mem_of_getElem? (i := 23) rfl) rfl)
theorem ml_X6_189 : zML RX6 189 mX2_allEarsBehind := (zg_3_2 _ (List.mem_of_getElem? (i := 24) rfl) rfl)
theorem ml_L_93 : zML RL 93 mX6_still := (zg_3_2 _ (List.mem_of_getElem? (i := 28) rfl) rfl)
theorem ml_X6_192 : zML RX6 192 mX6_sheavesWithout := (zg_3_3 _ (List.mem_of_getElem? (i := 0) rfl) rfl)
theorem ml_L_97 : zML RL 97 mX6_need := (zg_3_3 _ (List.mem_of_getElem? (i := 4) rfl) rfl)
theorem ml_L_101 : zML RL 101 mX6_swap := (zg_3_3 _ (List.mem_of_getElem? (i := 8) rfl) rfl)
theorem ml_L_105 : zML RL 105 mX6_bear := (zg_3_3 _ (List.mem_of_getElem? (i := 12) rfl) rfl)
theorem ml_X6_195 : zML RX6 195 mX6_earsBehind := (zg_3_3 _ (List.mem_of_getElem? (i := 16) rfl) rfl)
theorem ml_L_109 : zML RL 109 mX6_kind := (zg_3_3 _ (List.mem_of_getElem? (i := 17) rfl) rfl)
theorem ml_L_113 : zML RL 113 mX6_luck := (zg_3_3 _ (List.mem_of_getElem? (i := 21) rfl) rfl)
theorem ml_X6_201 : zML RX6 201 mX1_fallOn := (zg_3_3 _ (List.mem_of_getElem? (i := 26) rfl) rfl)
theorem ml_X1_26 : zML RX1 26 mX2_heardAt := (zg_3_3 _ (List.mem_of_getElem? (i := 30) rfl) rfl)
theorem ml_X1_34 : zML RX1 34 mX1_part := (zg_3_3 _ (List.mem_of_getElem? (i := 31) rfl) rfl)
theorem ml_X1_45 : zML RX1 45 mJ9_min_7cf53 := (zg_3_4 _ (List.mem_of_getElem? (i := 3) rfl) rfl)
theorem ml_X1_41 : zML RX1 41 mX1_passWeek := (zg_3_4 _ (List.mem_of_getElem? (i := 4) rfl) rfl)
theorem ml_X1_51 : zMN RX1 51 mX6_earsNext RX6 := (zg_3_4 _ (List.mem_of_getElem? (i := 8) rfl) rfl)
theorem ml_X1_55 : zMN RX1 55 mX6_blightNext RX6 := (zg_3_4 _ (List.mem_of_getElem? (i := 9) rfl) rfl)
theorem ml_X6_205 : zML RX6 205 mX1_weightOf := (zg_3_4 _ (List.mem_of_getElem? (i := 10) rfl) rfl)
theorem ml_X6_209 : zML RX6 209 mX6_tenToThe := (zg_3_4 _ (List.mem_of_getElem? (i := 14) rfl) rfl)
theorem ml_X6_212 : zML RX6 212 mX6_lowestTerms := (zg_3_4 _ (List.mem_of_getElem? (i := 18) rfl) rfl)
theorem ml_L_118 : zML RL 118 mX6_mean := (zg_3_4 _ (List.mem_of_getElem? (i := 21) rfl) rfl)
theorem ml_X6_216 : zML RX6 216 mX1_weighedEars := (zg_3_4 _ (List.mem_of_getElem? (i := 25) rfl) rfl)
theorem ml_L_123 : zML RL 123 mX6_see := (zg_3_4 _ (List.mem_of_getElem? (i := 29) rfl) rfl)
theorem ml_X6_222 : zML RX6 222 mX2_addSeen := (zg_3_5 _ (List.mem_of_getElem? (i := 1) rfl) rfl)
theorem ml_L_127 : zML RL 127 mX6_forget := (zg_3_5 _ (List.mem_of_getElem? (i := 5) rfl) rfl)
theorem ml_L_131 : zML RL 131 mX6_kinds := (zg_3_5 _ (List.mem_of_getElem? (i := 9) rfl) rfl)
theorem ml_X6_228 : zML RX6 228 mX2_isAsSeen := (zg_3_5 _ (List.mem_of_getElem? (i := 13) rfl) rfl)
theorem ml_L_135 : zML RL 135 mX6_blights := (zg_3_5 _ (List.mem_of_getElem? (i := 17) rfl) rfl)
theorem ml_X6_231 : zML RX6 231 mX6_blightsAsSeen := (zg_3_5 _ (List.mem_of_getElem? (i := 21) rfl) rfl)
theorem ml_L_139 : zML RL 139 mX6_ask := (zg_3_5 _ (List.mem_of_getElem? (i := 25) rfl) rfl)
theorem ml_X6_234 : zML RX6 234 mX0_begin := (zg_3_5 _ (List.mem_of_getElem? (i := 29) rfl) rfl)
theorem ml_X6_241 : zML RX6 241 mX0_largestGroup := (zg_3_6 _ (List.mem_of_getElem? (i := 1) rfl) rfl)
theorem ml_X0_30 : zML RX0 30 mJ9_max_7cf53 := (zg_3_6 _ (List.mem_of_getElem? (i := 5) rfl) rfl)
theorem ml_X6_244 : zML RX6 244 mX0_passWeek := (zg_3_6 _ (List.mem_of_getElem? (i := 6) rfl) rfl)
theorem ml_X0_22 : zMN RX0 22 mX6_earsNext RX6 := (zg_3_6 _ (List.mem_of_getElem? (i := 10) rfl) rfl)
theorem ml_X0_26 : zMN RX0 26 mX6_blightNext RX6 := (zg_3_6 _ (List.mem_of_getElem? (i := 11) rfl) rfl)
theorem ml_L_143 : zML RL 143 mX6_drift := (zg_3_6 _ (List.mem_of_getElem? (i := 12) rfl) rfl)
theorem ml_X6_248 : zML RX6 248 mX2_passWeek := (zg_3_6 _ (List.mem_of_getElem? (i := 17) rfl) rfl)
theorem ml_L_147 : zML RL 147 mX6_keep := (zg_3_6 _ (List.mem_of_getElem? (i := 18) rfl) rfl)
theorem ml_L_151 : zML RL 151 mX6_back := (zg_3_6 _ (List.mem_of_getElem? (i := 22) rfl) rfl)
theorem ml_L_155 : zML RL 155 mX6_sheet := (zg_3_6 _ (List.mem_of_getElem? (i := 26) rfl) rfl)
theorem ml_X6_250 : zML RX6 250 mX4_renew := (zg_3_6 _ (List.mem_of_getElem? (i := 30) rfl) rfl)
theorem ml_L_159 : zML RL 159 mX6_lay := (zg_3_7 _ (List.mem_of_getElem? (i := 2) rfl) rfl)
theorem ml_X6_257 : zML RX6 257 mX4_faultAt := (zg_3_7 _ (List.mem_of_getElem? (i := 6) rfl) rfl)
theorem ml_X4_21 : zMN RX4 21 mX6_within RX6 := (zg_3_7 _ (List.mem_of_getElem? (i := 10) rfl) rfl)
theorem ml_X6_260 : zML RX6 260 mX4_put := (zg_3_7 _ (List.mem_of_getElem? (i := 11) rfl) rfl)
theorem ml_X4_29 : zML RX4 29 mX4_lowestBits := (zg_3_7 _ (List.mem_of_getElem? (i := 15) rfl) rfl)
theorem ml_L_163 : zML RL 163 mX6_read := (zg_4_0 _ (List.mem_of_getElem? (i := 2) rfl) rfl)
theorem ml_X6_263 : zML RX6 263 mX4_pairFault := (zg_4_0 _ (List.mem_of_getElem? (i := 6) rfl) rfl)
theorem ml_X4_25 : zML RX4 25 mX4_faultAt := (zg_4_0 _ (List.mem_of_getElem? (i := 10) rfl) rfl)
theorem ml_X6_266 : zML RX6 266 mX4_get := (zg_4_0 _ (List.mem_of_getElem? (i := 11) rfl) rfl)
theorem ml_X6_269 : zML RX6 269 mX6_march := (zg_4_0 _ (List.mem_of_getElem? (i := 15) rfl) rfl)
theorem ml_L_168 : zML RL 168 mX6_torn := (zg_4_0 _ (List.mem_of_getElem? (i := 16) rfl) rfl)
theorem ml_L_172 : zML RL 172 mX6_count := (zg_4_0 _ (List.mem_of_getElem? (i := 20) rfl) rfl)
theorem ml_X6_274 : zML RX6 274 mX2_allLoud := (zg_4_0 _ (List.mem_of_getElem? (i := 24) rfl) rfl)
theorem ml_L_12 : zML RL 12 mX7_init := (zg_4_0 _ (List.mem_of_getElem? (i := 30) rfl) rfl)
theorem ml_X7_47 : zML RX7 47 mX7_firstDraft := (zg_4_1 _ (List.mem_of_getElem? (i := 2) rfl) rfl)
theorem ml_X7_50 : zML RX7 50 mX7_keepDraft := (zg_4_1 _ (List.mem_of_getElem? (i := 6) rfl) rfl)
theorem ml_L_17 : zML RL 17 mX7_feed := (zg_4_4 _ (List.mem_of_getElem? (i := 2) rfl) rfl)
theorem ml_X7_63 : zML RX7 63 mX7_in := (zg_4_4 _ (List.mem_of_getElem? (i := 7) rfl) rfl)
theorem ml_L_21 : zML RL 21 mX7_end := (zg_4_4 _ (List.mem_of_getElem? (i := 10) rfl) rfl)
theorem ml_L_26 : zML RL 26 mX7_text := (zg_4_4 _ (List.mem_of_getElem? (i := 14) rfl) rfl)
theorem ml_X7_112 : zML RX7 112 mX7_reads := (zg_4_4 _ (List.mem_of_getElem? (i := 18) rfl) rfl)
theorem ml_X7_82 : zML RX7 82 mX7_byteAt := (zg_4_4 _ (List.mem_of_getElem? (i := 22) rfl) rfl)
theorem ml_X7_108 : zML RX7 108 mX7_requires := (zg_4_4 _ (List.mem_of_getElem? (i := 30) rfl) rfl)
theorem ml_X7_130 : zML RX7 130 mX7_readLine := (zg_4_5 _ (List.mem_of_getElem? (i := 2) rfl) rfl)
theorem ml_X7_122 : zML RX7 122 mX7_lineNow := (zg_4_5 _ (List.mem_of_getElem? (i := 6) rfl) rfl)
theorem ml_X7_86 : zML RX7 86 mX7_is := (zg_4_5 _ (List.mem_of_getElem? (i := 10) rfl) rfl)
theorem ml_X7_90 : zML RX7 90 mX7_endsIn := (zg_4_5 _ (List.mem_of_getElem? (i := 14) rfl) rfl)
theorem ml_X7_126 : zML RX7 126 mX7_readLineOf := (zg_4_5 _ (List.mem_of_getElem? (i := 18) rfl) rfl)
theorem ml_X7_119 : zML RX7 119 mX7_readBand := (zg_4_5 _ (List.mem_of_getElem? (i := 22) rfl) rfl)
theorem ml_X7_115 : zML RX7 115 mX7_readNumber := (zg_4_5 _ (List.mem_of_getElem? (i := 26) rfl) rfl)
theorem ml_L_30 : zML RL 30 mX7_fault := (zg_4_5 _ (List.mem_of_getElem? (i := 30) rfl) rfl)
theorem ml_L_34 : zML RL 34 mX7_rule := (zg_4_6 _ (List.mem_of_getElem? (i := 2) rfl) rfl)
theorem ml_X7_180 : zML RX7 180 mX7_starts := (zg_4_6 _ (List.mem_of_getElem? (i := 6) rfl) rfl)
theorem ml_X7_144 : zML RX7 144 mX7_heardAt := (zg_4_6 _ (List.mem_of_getElem? (i := 10) rfl) rfl)
theorem ml_X7_141 : zML RX7 141 mX7_ofBand := (zg_4_6 _ (List.mem_of_getElem? (i := 14) rfl) rfl)
theorem ml_X7_176 : zML RX7 176 mX7_flag := (zg_4_6 _ (List.mem_of_getElem? (i := 18) rfl) rfl)
theorem ml_X7_173 : zML RX7 173 mX7_sumOf := (zg_4_6 _ (List.mem_of_getElem? (i := 21) rfl) rfl)
theorem ml_X7_147 : zML RX7 147 mX7_of := (zg_4_6 _ (List.mem_of_getElem? (i := 25) rfl) rfl)
theorem ml_L_39 : zML RL 39 mX7_field := (zg_4_6 _ (List.mem_of_getElem? (i := 29) rfl) rfl)
theorem ml_X7_183 : zML RX7 183 mX7_isField := (zg_4_7 _ (List.mem_of_getElem? (i := 1) rfl) rfl)
theorem ml_X7_150 : zML RX7 150 mX7_growsBy := (zg_4_7 _ (List.mem_of_getElem? (i := 5) rfl) rfl)
theorem ml_X7_160 : zML RX7 160 mX7_heeds := (zg_4_7 _ (List.mem_of_getElem? (i := 9) rfl) rfl)
theorem ml_L_43 : zML RL 43 mX7_band := (zg_4_7 _ (List.mem_of_getElem? (i := 13) rfl) rfl)
theorem ml_X7_187 : zML RX7 187 mX7_isBand := (zg_5_0 _ (List.mem_of_getElem? (i := 1) rfl) rfl)
theorem ml_X7_190 : zML RX7 190 mX7_isPart := (zg_5_0 _ (List.mem_of_getElem? (i := 5) rfl) rfl)
theorem ml_L_48 : zML RL 48 mX7_alter := (zg_5_0 _ (List.mem_of_getElem? (i := 8) rfl) rfl)
theorem ml_X7_195 : zML RX7 195 mX7_areEars := (zg_5_0 _ (List.mem_of_getElem? (i := 13) rfl) rfl)
theorem ml_X7_200 : zML RX7 200 mX7_becomes := (zg_5_0 _ (List.mem_of_getElem? (i := 18) rfl) rfl)
theorem ml_L_52 : zML RL 52 mX7_march := (zg_5_0 _ (List.mem_of_getElem? (i := 22) rfl) rfl)
theorem ml_L_56 : zML RL 56 mX7_play := (zg_5_0 _ (List.mem_of_getElem? (i := 26) rfl) rfl)
theorem ml_L_60 : zML RL 60 mX7_glut := (zg_5_0 _ (List.mem_of_getElem? (i := 30) rfl) rfl)
theorem ml_L_64 : zML RL 64 mX7_hire := (zg_5_1 _ (List.mem_of_getElem? (i := 2) rfl) rfl)
theorem ml_L_68 : zML RL 68 mX7_leave := (zg_5_1 _ (List.mem_of_getElem? (i := 6) rfl) rfl)
theorem ml_L_72 : zML RL 72 mX7_weeks := (zg_5_1 _ (List.mem_of_getElem? (i := 10) rfl) rfl)
theorem ml_X7_205 : zML RX7 205 mX7_earsBehind := (zg_5_1 _ (List.mem_of_getElem? (i := 15) rfl) rfl)
theorem ml_X7_170 : zML RX7 170 mX7_weeksGo := (zg_5_1 _ (List.mem_of_getElem? (i := 19) rfl) rfl)
theorem ml_X7_166 : zML RX7 166 mX7_weekGoes := (zg_5_1 _ (List.mem_of_getElem? (i := 23) rfl) rfl)
theorem ml_X7_153 : zML RX7 153 mX7_within := (zg_5_1 _ (List.mem_of_getElem? (i := 27) rfl) rfl)
theorem ml_X7_156 : zML RX7 156 mX7_becomesOf := (zg_5_1 _ (List.mem_of_getElem? (i := 30) rfl) rfl)
theorem ml_X7_163 : zML RX7 163 mX7_fieldGoes := (zg_5_2 _ (List.mem_of_getElem? (i := 2) rfl) rfl)
theorem ml_X7_208 : zML RX7 208 mX7_settles := (zg_5_2 _ (List.mem_of_getElem? (i := 6) rfl) rfl)
theorem ml_L_76 : zML RL 76 mX7_runs := (zg_5_2 _ (List.mem_of_getElem? (i := 10) rfl) rfl)
theorem ml_X7_213 : zML RX7 213 mX7_isFar := (zg_5_2 _ (List.mem_of_getElem? (i := 14) rfl) rfl)
theorem ml_X7_218 : zML RX7 218 mX7_emptyNow := (zg_5_2 _ (List.mem_of_getElem? (i := 19) rfl) rfl)
theorem ml_L_80 : zML RL 80 mX7_ahead := (zg_5_2 _ (List.mem_of_getElem? (i := 23) rfl) rfl)
theorem ml_L_84 : zML RL 84 mX7_late := (zg_5_2 _ (List.mem_of_getElem? (i := 27) rfl) rfl)
theorem ml_L_88 : zML RL 88 mX7_order := (zg_5_2 _ (List.mem_of_getElem? (i := 31) rfl) rfl)
theorem ml_X7_241 : zML RX7 241 mX7_findOrder := (zg_5_3 _ (List.mem_of_getElem? (i := 5) rfl) rfl)
theorem ml_X7_227 : zML RX7 227 mX7_startsJudging := (zg_5_3 _ (List.mem_of_getElem? (i := 9) rfl) rfl)
theorem ml_X7_230 : zML RX7 230 mX7_bandBecomes := (zg_5_3 _ (List.mem_of_getElem? (i := 13) rfl) rfl)
theorem ml_X7_233 : zML RX7 233 mX7_judges := (zg_5_3 _ (List.mem_of_getElem? (i := 17) rfl) rfl)
theorem ml_L_92 : zML RL 92 mX7_move := (zg_5_3 _ (List.mem_of_getElem? (i := 21) rfl) rfl)
theorem ml_X7_244 : zML RX7 244 mX7_judged := (zg_5_3 _ (List.mem_of_getElem? (i := 25) rfl) rfl)
theorem ml_L_96 : zML RL 96 mX7_still := (zg_5_3 _ (List.mem_of_getElem? (i := 29) rfl) rfl)
theorem ml_L_100 : zML RL 100 mX7_need := (zg_5_4 _ (List.mem_of_getElem? (i := 1) rfl) rfl)
theorem ml_L_104 : zML RL 104 mX7_swap := (zg_5_4 _ (List.mem_of_getElem? (i := 5) rfl) rfl)
theorem ml_L_108 : zML RL 108 mX7_bear := (zg_5_4 _ (List.mem_of_getElem? (i := 9) rfl) rfl)
theorem ml_L_112 : zML RL 112 mX7_kind := (zg_5_4 _ (List.mem_of_getElem? (i := 13) rfl) rfl)
theorem ml_L_117 : zML RL 117 mX7_luck := (zg_5_4 _ (List.mem_of_getElem? (i := 17) rfl) rfl)
theorem ml_X7_265 : zML RX7 265 mX7_findOdds := (zg_5_4 _ (List.mem_of_getElem? (i := 23) rfl) rfl)
theorem ml_X7_269 : zML RX7 269 mX7_lowest := (zg_5_4 _ (List.mem_of_getElem? (i := 27) rfl) rfl)
theorem ml_X7_247 : zML RX7 247 mX7_common := (zg_5_4 _ (List.mem_of_getElem? (i := 30) rfl) rfl)
theorem ml_L_122 : zML RL 122 mX7_mean := (zg_5_5 _ (List.mem_of_getElem? (i := 1) rfl) rfl)
theorem ml_L_126 : zML RL 126 mX7_see := (zg_5_5 _ (List.mem_of_getElem? (i := 5) rfl) rfl)
theorem ml_L_130 : zML RL 130 mX7_forget := (zg_5_5 _ (List.mem_of_getElem? (i := 10) rfl) rfl)
theorem ml_L_134 : zML RL 134 mX7_kinds := (zg_5_5 _ (List.mem_of_getElem? (i := 14) rfl) rfl)
theorem ml_X7_278 : zML RX7 278 mX7_which := (zg_5_5 _ (List.mem_of_getElem? (i := 18) rfl) rfl)
theorem ml_X7_275 : zML RX7 275 mX7_isSoWith := (zg_5_5 _ (List.mem_of_getElem? (i := 22) rfl) rfl)
theorem ml_L_138 : zML RL 138 mX7_blights := (zg_5_5 _ (List.mem_of_getElem? (i := 26) rfl) rfl)
theorem ml_L_142 : zML RL 142 mX7_ask := (zg_5_5 _ (List.mem_of_getElem? (i := 30) rfl) rfl)
theorem ml_L_146 : zML RL 146 mX7_drift := (zg_5_6 _ (List.mem_of_getElem? (i := 2) rfl) rfl)
theorem ml_L_150 : zML RL 150 mX7_keep := (zg_5_6 _ (List.mem_of_getElem? (i := 7) rfl) rfl)
theorem ml_X7_282 : zML RX7 282 mX7_copies := (zg_5_6 _ (List.mem_of_getElem? (i := 11) rfl) rfl)
theorem ml_L_154 : zML RL 154 mX7_back := (zg_5_6 _ (List.mem_of_getElem? (i := 15) rfl) rfl)
theorem ml_L_158 : zML RL 158 mX7_sheet := (zg_5_6 _ (List.mem_of_getElem? (i := 19) rfl) rfl)
theorem ml_X7_287 : zML RX7 287 mX7_isSheet := (zg_5_6 _ (List.mem_of_getElem? (i := 23) rfl) rfl)
theorem ml_L_162 : zML RL 162 mX7_lay := (zg_5_6 _ (List.mem_of_getElem? (i := 27) rfl) rfl)
theorem ml_L_167 : zML RL 167 mX7_read := (zg_5_6 _ (List.mem_of_getElem? (i := 31) rfl) rfl)
theorem ml_X7_290 : zML RX7 290 mX7_march := (zg_5_7 _ (List.mem_of_getElem? (i := 3) rfl) rfl)
theorem ml_L_171 : zML RL 171 mX7_torn := (zg_5_7 _ (List.mem_of_getElem? (i := 4) rfl) rfl)
theorem ml_L_175 : zML RL 175 mX7_count := (zg_5_7 _ (List.mem_of_getElem? (i := 8) rfl) rfl)
end
section
def zD (cc : ByteArray) (pc : Nat) (i : Instr) (len pc' : Nat) : Prop := decode cc pc = .ok (i, len) ∧ pc' = pc + len
def zJ (cc : ByteArray) (pc : Nat) (f : Int → Instr) (tgt pc' : Nat) : Prop := ∃ off : Int, decode cc pc = .ok (f off, 3) ∧ (pc : Int) + off = (tgt : Int) ∧ pc' = pc + 3
def zG (cc : ByteArray) (pc tgt : Nat) : Prop := ∃ off : Int, decode cc pc = .ok (.goto off, 3) ∧ (pc : Int) + off = (tgt : Int)
theorem dX0_init_0 : zD cX0_init 0 (.aload_n 0) 1 1 := ⟨by decide +kernel, rfl⟩
theorem dX0_init_1 : zD cX0_init 1 (.invokespecial 3) 3 4 := ⟨by decide +kernel, rfl⟩
theorem dX0_init_4 : zD cX0_init 4 (.aload_n 0) 1 5 := ⟨by decide +kernel, rfl⟩
theorem dX0_init_5 : zD cX0_init 5 (.bipush 10) 2 7 := ⟨by decide +kernel, rfl⟩
theorem dX0_init_7 : zD cX0_init 7 (.newarray .int) 2 9 := ⟨by decide +kernel, rfl⟩
theorem dX0_init_9 : zD cX0_init 9 (.putfield 9) 3 12 := ⟨by decide +kernel, rfl⟩
theorem dX0_init_12 : zD cX0_init 12 (.aload_n 0) 1 13 := ⟨by decide +kernel, rfl⟩
theorem dX0_init_13 : zD cX0_init 13 (.bipush 10) 2 15 := ⟨by decide +kernel, rfl⟩
theorem dX0_init_15 : zD cX0_init 15 (.newarray .int) 2 17 := ⟨by decide +kernel, rfl⟩
theorem dX0_init_17 : zD cX0_init 17 (.putfield 15) 3 20 := ⟨by decide +kernel, rfl⟩
theorem dX0_init_20 : zD cX0_init 20 (.aload_n 0) 1 21 := ⟨by decide +kernel, rfl⟩
theorem dX0_init_21 : zD cX0_init 21 (.iconst 0) 1 22 := ⟨by decide +kernel, rfl⟩
theorem dX0_init_22 : zD cX0_init 22 (.putfield 18) 3 25 := ⟨by decide +kernel, rfl⟩
theorem dX0_init_25 : zD cX0_init 25 (.return_) 1 26 := ⟨by decide +kernel, rfl⟩
theorem dX0_begin_0 : zD cX0_begin 0 (.aload_n 0) 1 1 := ⟨by decide +kernel, rfl⟩
theorem dX0_begin_1 : zD cX0_begin 1 (.iconst 0) 1 2 := ⟨by decide +kernel, rfl⟩
theorem dX0_begin_2 : zD cX0_begin 2 (.putfield 18) 3 5 := ⟨by decide +kernel, rfl⟩
theorem dX0_begin_5 : zD cX0_begin 5 (.iconst 0) 1 6 := ⟨by decide +kernel, rfl⟩
theorem dX0_begin_6 : zD cX0_begin 6 (.istore_n 3) 1 7 := ⟨by decide +kernel, rfl⟩
theorem dX0_begin_7 : zD cX0_begin 7 (.iload_n 3) 1 8 := ⟨by decide +kernel, rfl⟩
theorem dX0_begin_8 : zD cX0_begin 8 (.bipush 9) 2 10 := ⟨by decide +kernel, rfl⟩
theorem dX0_begin_10 : zJ cX0_begin 10 (fun o => .if_icmp .gt o) 57 13 := ⟨47, by decide +kernel, by decide, rfl⟩
theorem dX0_begin_13 : zD cX0_begin 13 (.iload_n 1) 1 14 := ⟨by decide +kernel, rfl⟩
theorem dX0_begin_14 : zD cX0_begin 14 (.iload_n 3) 1 15 := ⟨by decide +kernel, rfl⟩
theorem dX0_begin_15 : zD cX0_begin 15 (.ishr) 1 16 := ⟨by decide +kernel, rfl⟩
theorem dX0_begin_16 : zD cX0_begin 16 (.iconst 1) 1 17 := ⟨by decide +kernel, rfl⟩
theorem dX0_begin_17 : zD cX0_begin 17 (.iand) 1 18 := ⟨by decide +kernel, rfl⟩
theorem dX0_begin_18 : zJ cX0_begin 18 (fun o => .ifCond .eq o) 51 21 := ⟨33, by decide +kernel, by decide, rfl⟩
theorem dX0_begin_21 : zD cX0_begin 21 (.aload_n 0) 1 22 := ⟨by decide +kernel, rfl⟩
theorem dX0_begin_22 : zD cX0_begin 22 (.getfield 9) 3 25 := ⟨by decide +kernel, rfl⟩
theorem dX0_begin_25 : zD cX0_begin 25 (.aload_n 0) 1 26 := ⟨by decide +kernel, rfl⟩
theorem dX0_begin_26 : zD cX0_begin 26 (.getfield 18) 3 29 := ⟨by decide +kernel, rfl⟩
theorem dX0_begin_29 : zD cX0_begin 29 (.iload_n 2) 1 30 := ⟨by decide +kernel, rfl⟩
theorem dX0_begin_30 : zD cX0_begin 30 (.iastore) 1 31 := ⟨by decide +kernel, rfl⟩
theorem dX0_begin_31 : zD cX0_begin 31 (.aload_n 0) 1 32 := ⟨by decide +kernel, rfl⟩
theorem dX0_begin_32 : zD cX0_begin 32 (.getfield 15) 3 35 := ⟨by decide +kernel, rfl⟩
theorem dX0_begin_35 : zD cX0_begin 35 (.aload_n 0) 1 36 := ⟨by decide +kernel, rfl⟩
theorem dX0_begin_36 : zD cX0_begin 36 (.getfield 18) 3 39 := ⟨by decide +kernel, rfl⟩
theorem dX0_begin_39 : zD cX0_begin 39 (.iload_n 3) 1 40 := ⟨by decide +kernel, rfl⟩
theorem dX0_begin_40 : zD cX0_begin 40 (.iastore) 1 41 := ⟨by decide +kernel, rfl⟩
theorem dX0_begin_41 : zD cX0_begin 41 (.aload_n 0) 1 42 := ⟨by decide +kernel, rfl⟩
theorem dX0_begin_42 : zD cX0_begin 42 (.dup) 1 43 := ⟨by decide +kernel, rfl⟩
theorem dX0_begin_43 : zD cX0_begin 43 (.getfield 18) 3 46 := ⟨by decide +kernel, rfl⟩
theorem dX0_begin_46 : zD cX0_begin 46 (.iconst 1) 1 47 := ⟨by decide +kernel, rfl⟩
theorem dX0_begin_47 : zD cX0_begin 47 (.iadd) 1 48 := ⟨by decide +kernel, rfl⟩
theorem dX0_begin_48 : zD cX0_begin 48 (.putfield 18) 3 51 := ⟨by decide +kernel, rfl⟩
theorem dX0_begin_51 : zD cX0_begin 51 (.iinc 3 1) 3 54 := ⟨by decide +kernel, rfl⟩
theorem dX0_begin_54 : zG cX0_begin 54 7 := ⟨(-47), by decide +kernel, by decide⟩
theorem dX0_begin_57 : zD cX0_begin 57 (.return_) 1 58 := ⟨by decide +kernel, rfl⟩
theorem dX0_passWeek_0 : zD cX0_passWeek 0 (.iconst 0) 1 1 := ⟨by decide +kernel, rfl⟩
theorem dX0_passWeek_1 : zD cX0_passWeek 1 (.istore_n 3) 1 2 := ⟨by decide +kernel, rfl⟩
theorem dX0_passWeek_2 : zD cX0_passWeek 2 (.iload_n 3) 1 3 := ⟨by decide +kernel, rfl⟩
theorem dX0_passWeek_3 : zD cX0_passWeek 3 (.aload_n 0) 1 4 := ⟨by decide +kernel, rfl⟩
theorem dX0_passWeek_4 : zD cX0_passWeek 4 (.getfield 18) 3 7 := ⟨by decide +kernel, rfl⟩
theorem dX0_passWeek_7 : zJ cX0_passWeek 7 (fun o => .if_icmp .ge o) 56 10 := ⟨49, by decide +kernel, by decide, rfl⟩
theorem dX0_passWeek_10 : zD cX0_passWeek 10 (.aload_n 0) 1 11 := ⟨by decide +kernel, rfl⟩
theorem dX0_passWeek_11 : zD cX0_passWeek 11 (.getfield 9) 3 14 := ⟨by decide +kernel, rfl⟩
theorem dX0_passWeek_14 : zD cX0_passWeek 14 (.iload_n 3) 1 15 := ⟨by decide +kernel, rfl⟩
theorem dX0_passWeek_15 : zD cX0_passWeek 15 (.iload_n 1) 1 16 := ⟨by decide +kernel, rfl⟩
theorem dX0_passWeek_16 : zD cX0_passWeek 16 (.aload_n 0) 1 17 := ⟨by decide +kernel, rfl⟩
theorem dX0_passWeek_17 : zD cX0_passWeek 17 (.getfield 9) 3 20 := ⟨by decide +kernel, rfl⟩
theorem dX0_passWeek_20 : zD cX0_passWeek 20 (.iload_n 3) 1 21 := ⟨by decide +kernel, rfl⟩
theorem dX0_passWeek_21 : zD cX0_passWeek 21 (.iaload) 1 22 := ⟨by decide +kernel, rfl⟩
theorem dX0_passWeek_22 : zD cX0_passWeek 22 (.aload_n 0) 1 23 := ⟨by decide +kernel, rfl⟩
theorem dX0_passWeek_23 : zD cX0_passWeek 23 (.getfield 15) 3 26 := ⟨by decide +kernel, rfl⟩
theorem dX0_passWeek_26 : zD cX0_passWeek 26 (.iload_n 3) 1 27 := ⟨by decide +kernel, rfl⟩
theorem dX0_passWeek_27 : zD cX0_passWeek 27 (.iaload) 1 28 := ⟨by decide +kernel, rfl⟩
theorem dX0_passWeek_28 : zD cX0_passWeek 28 (.iload_n 2) 1 29 := ⟨by decide +kernel, rfl⟩
theorem dX0_passWeek_29 : zD cX0_passWeek 29 (.invokestatic 22) 3 32 := ⟨by decide +kernel, rfl⟩
theorem dX0_passWeek_32 : zD cX0_passWeek 32 (.iastore) 1 33 := ⟨by decide +kernel, rfl⟩
theorem dX0_passWeek_33 : zD cX0_passWeek 33 (.aload_n 0) 1 34 := ⟨by decide +kernel, rfl⟩
theorem dX0_passWeek_34 : zD cX0_passWeek 34 (.getfield 15) 3 37 := ⟨by decide +kernel, rfl⟩
theorem dX0_passWeek_37 : zD cX0_passWeek 37 (.iload_n 3) 1 38 := ⟨by decide +kernel, rfl⟩
theorem dX0_passWeek_38 : zD cX0_passWeek 38 (.iload_n 1) 1 39 := ⟨by decide +kernel, rfl⟩
theorem dX0_passWeek_39 : zD cX0_passWeek 39 (.aload_n 0) 1 40 := ⟨by decide +kernel, rfl⟩
theorem dX0_passWeek_40 : zD cX0_passWeek 40 (.getfield 15) 3 43 := ⟨by decide +kernel, rfl⟩
theorem dX0_passWeek_43 : zD cX0_passWeek 43 (.iload_n 3) 1 44 := ⟨by decide +kernel, rfl⟩
theorem dX0_passWeek_44 : zD cX0_passWeek 44 (.iaload) 1 45 := ⟨by decide +kernel, rfl⟩
theorem dX0_passWeek_45 : zD cX0_passWeek 45 (.iload_n 2) 1 46 := ⟨by decide +kernel, rfl⟩
theorem dX0_passWeek_46 : zD cX0_passWeek 46 (.invokestatic 26) 3 49 := ⟨by decide +kernel, rfl⟩
theorem dX0_passWeek_49 : zD cX0_passWeek 49 (.iastore) 1 50 := ⟨by decide +kernel, rfl⟩
theorem dX0_passWeek_50 : zD cX0_passWeek 50 (.iinc 3 1) 3 53 := ⟨by decide +kernel, rfl⟩
theorem dX0_passWeek_53 : zG cX0_passWeek 53 2 := ⟨(-51), by decide +kernel, by decide⟩
theorem dX0_passWeek_56 : zD cX0_passWeek 56 (.return_) 1 57 := ⟨by decide +kernel, rfl⟩
theorem dX0_largestGroup_0 : zD cX0_largestGroup 0 (.iconst 0) 1 1 := ⟨by decide +kernel, rfl⟩
theorem dX0_largestGroup_1 : zD cX0_largestGroup 1 (.istore_n 1) 1 2 := ⟨by decide +kernel, rfl⟩
theorem dX0_largestGroup_2 : zD cX0_largestGroup 2 (.iconst 0) 1 3 := ⟨by decide +kernel, rfl⟩
theorem dX0_largestGroup_3 : zD cX0_largestGroup 3 (.istore_n 2) 1 4 := ⟨by decide +kernel, rfl⟩
theorem dX0_largestGroup_4 : zD cX0_largestGroup 4 (.iload_n 2) 1 5 := ⟨by decide +kernel, rfl⟩
theorem dX0_largestGroup_5 : zD cX0_largestGroup 5 (.aload_n 0) 1 6 := ⟨by decide +kernel, rfl⟩
theorem dX0_largestGroup_6 : zD cX0_largestGroup 6 (.getfield 18) 3 9 := ⟨by decide +kernel, rfl⟩
theorem dX0_largestGroup_9 : zJ cX0_largestGroup 9 (fun o => .if_icmp .ge o) 63 12 := ⟨54, by decide +kernel, by decide, rfl⟩
theorem dX0_largestGroup_12 : zD cX0_largestGroup 12 (.iconst 0) 1 13 := ⟨by decide +kernel, rfl⟩
theorem dX0_largestGroup_13 : zD cX0_largestGroup 13 (.istore_n 3) 1 14 := ⟨by decide +kernel, rfl⟩
theorem dX0_largestGroup_14 : zD cX0_largestGroup 14 (.iconst 0) 1 15 := ⟨by decide +kernel, rfl⟩
theorem dX0_largestGroup_15 : zD cX0_largestGroup 15 (.istore 4) 2 17 := ⟨by decide +kernel, rfl⟩
theorem dX0_largestGroup_17 : zD cX0_largestGroup 17 (.iload 4) 2 19 := ⟨by decide +kernel, rfl⟩
theorem dX0_largestGroup_19 : zD cX0_largestGroup 19 (.aload_n 0) 1 20 := ⟨by decide +kernel, rfl⟩
theorem dX0_largestGroup_20 : zD cX0_largestGroup 20 (.getfield 18) 3 23 := ⟨by decide +kernel, rfl⟩
theorem dX0_largestGroup_23 : zJ cX0_largestGroup 23 (fun o => .if_icmp .ge o) 51 26 := ⟨28, by decide +kernel, by decide, rfl⟩
theorem dX0_largestGroup_26 : zD cX0_largestGroup 26 (.aload_n 0) 1 27 := ⟨by decide +kernel, rfl⟩
theorem dX0_largestGroup_27 : zD cX0_largestGroup 27 (.getfield 9) 3 30 := ⟨by decide +kernel, rfl⟩
theorem dX0_largestGroup_30 : zD cX0_largestGroup 30 (.iload 4) 2 32 := ⟨by decide +kernel, rfl⟩
theorem dX0_largestGroup_32 : zD cX0_largestGroup 32 (.iaload) 1 33 := ⟨by decide +kernel, rfl⟩
theorem dX0_largestGroup_33 : zD cX0_largestGroup 33 (.aload_n 0) 1 34 := ⟨by decide +kernel, rfl⟩
theorem dX0_largestGroup_34 : zD cX0_largestGroup 34 (.getfield 9) 3 37 := ⟨by decide +kernel, rfl⟩
theorem dX0_largestGroup_37 : zD cX0_largestGroup 37 (.iload_n 2) 1 38 := ⟨by decide +kernel, rfl⟩
theorem dX0_largestGroup_38 : zD cX0_largestGroup 38 (.iaload) 1 39 := ⟨by decide +kernel, rfl⟩
theorem dX0_largestGroup_39 : zJ cX0_largestGroup 39 (fun o => .if_icmp .ne o) 45 42 := ⟨6, by decide +kernel, by decide, rfl⟩
theorem dX0_largestGroup_42 : zD cX0_largestGroup 42 (.iinc 3 1) 3 45 := ⟨by decide +kernel, rfl⟩
theorem dX0_largestGroup_45 : zD cX0_largestGroup 45 (.iinc 4 1) 3 48 := ⟨by decide +kernel, rfl⟩
theorem dX0_largestGroup_48 : zG cX0_largestGroup 48 17 := ⟨(-31), by decide +kernel, by decide⟩
theorem dX0_largestGroup_51 : zD cX0_largestGroup 51 (.iload_n 1) 1 52 := ⟨by decide +kernel, rfl⟩
theorem dX0_largestGroup_52 : zD cX0_largestGroup 52 (.iload_n 3) 1 53 := ⟨by decide +kernel, rfl⟩
theorem dX0_largestGroup_53 : zD cX0_largestGroup 53 (.invokestatic 30) 3 56 := ⟨by decide +kernel, rfl⟩
theorem dX0_largestGroup_56 : zD cX0_largestGroup 56 (.istore_n 1) 1 57 := ⟨by decide +kernel, rfl⟩
theorem dX0_largestGroup_57 : zD cX0_largestGroup 57 (.iinc 2 1) 3 60 := ⟨by decide +kernel, rfl⟩
theorem dX0_largestGroup_60 : zG cX0_largestGroup 60 4 := ⟨(-56), by decide +kernel, by decide⟩
theorem dX0_largestGroup_63 : zD cX0_largestGroup 63 (.iload_n 1) 1 64 := ⟨by decide +kernel, rfl⟩
theorem dX0_largestGroup_64 : zD cX0_largestGroup 64 (.ireturn) 1 65 := ⟨by decide +kernel, rfl⟩
theorem dX1_init_0 : zD cX1_init 0 (.aload_n 0) 1 1 := ⟨by decide +kernel, rfl⟩
theorem dX1_init_1 : zD cX1_init 1 (.invokespecial 3) 3 4 := ⟨by decide +kernel, rfl⟩
theorem dX1_init_4 : zD cX1_init 4 (.aload_n 0) 1 5 := ⟨by decide +kernel, rfl⟩
theorem dX1_init_5 : zD cX1_init 5 (.sipush 256) 3 8 := ⟨by decide +kernel, rfl⟩
theorem dX1_init_8 : zD cX1_init 8 (.newarray .int) 2 10 := ⟨by decide +kernel, rfl⟩
theorem dX1_init_10 : zD cX1_init 10 (.putfield 11) 3 13 := ⟨by decide +kernel, rfl⟩
theorem dX1_init_13 : zD cX1_init 13 (.aload_n 0) 1 14 := ⟨by decide +kernel, rfl⟩
theorem dX1_init_14 : zD cX1_init 14 (.sipush 256) 3 17 := ⟨by decide +kernel, rfl⟩
theorem dX1_init_17 : zD cX1_init 17 (.newarray .int) 2 19 := ⟨by decide +kernel, rfl⟩
theorem dX1_init_19 : zD cX1_init 19 (.putfield 15) 3 22 := ⟨by decide +kernel, rfl⟩
theorem dX1_init_22 : zD cX1_init 22 (.aload_n 0) 1 23 := ⟨by decide +kernel, rfl⟩
theorem dX1_init_23 : zD cX1_init 23 (.sipush 256) 3 26 := ⟨by decide +kernel, rfl⟩
theorem dX1_init_26 : zD cX1_init 26 (.newarray .long) 2 28 := ⟨by decide +kernel, rfl⟩
theorem dX1_init_28 : zD cX1_init 28 (.putfield 18) 3 31 := ⟨by decide +kernel, rfl⟩
theorem dX1_init_31 : zD cX1_init 31 (.aload_n 0) 1 32 := ⟨by decide +kernel, rfl⟩
theorem dX1_init_32 : zD cX1_init 32 (.iconst 0) 1 33 := ⟨by decide +kernel, rfl⟩
theorem dX1_init_33 : zD cX1_init 33 (.putfield 22) 3 36 := ⟨by decide +kernel, rfl⟩
theorem dX1_init_36 : zD cX1_init 36 (.return_) 1 37 := ⟨by decide +kernel, rfl⟩
theorem dX1_fallOn_0 : zD cX1_fallOn 0 (.aload_n 1) 1 1 := ⟨by decide +kernel, rfl⟩
theorem dX1_fallOn_1 : zD cX1_fallOn 1 (.iload_n 2) 1 2 := ⟨by decide +kernel, rfl⟩
theorem dX1_fallOn_2 : zD cX1_fallOn 2 (.invokevirtual 26) 3 5 := ⟨by decide +kernel, rfl⟩
theorem dX1_fallOn_5 : zD cX1_fallOn 5 (.istore 5) 2 7 := ⟨by decide +kernel, rfl⟩
theorem dX1_fallOn_7 : zD cX1_fallOn 7 (.aload_n 0) 1 8 := ⟨by decide +kernel, rfl⟩
theorem dX1_fallOn_8 : zD cX1_fallOn 8 (.getfield 11) 3 11 := ⟨by decide +kernel, rfl⟩
theorem dX1_fallOn_11 : zD cX1_fallOn 11 (.iconst 0) 1 12 := ⟨by decide +kernel, rfl⟩
theorem dX1_fallOn_12 : zD cX1_fallOn 12 (.aload_n 1) 1 13 := ⟨by decide +kernel, rfl⟩
theorem dX1_fallOn_13 : zD cX1_fallOn 13 (.getfield 32) 3 16 := ⟨by decide +kernel, rfl⟩
theorem dX1_fallOn_16 : zD cX1_fallOn 16 (.iload_n 2) 1 17 := ⟨by decide +kernel, rfl⟩
theorem dX1_fallOn_17 : zD cX1_fallOn 17 (.iaload) 1 18 := ⟨by decide +kernel, rfl⟩
theorem dX1_fallOn_18 : zD cX1_fallOn 18 (.iastore) 1 19 := ⟨by decide +kernel, rfl⟩
theorem dX1_fallOn_19 : zD cX1_fallOn 19 (.aload_n 0) 1 20 := ⟨by decide +kernel, rfl⟩
theorem dX1_fallOn_20 : zD cX1_fallOn 20 (.getfield 15) 3 23 := ⟨by decide +kernel, rfl⟩
theorem dX1_fallOn_23 : zD cX1_fallOn 23 (.iconst 0) 1 24 := ⟨by decide +kernel, rfl⟩
theorem dX1_fallOn_24 : zD cX1_fallOn 24 (.aload_n 1) 1 25 := ⟨by decide +kernel, rfl⟩
theorem dX1_fallOn_25 : zD cX1_fallOn 25 (.getfield 33) 3 28 := ⟨by decide +kernel, rfl⟩
theorem dX1_fallOn_28 : zD cX1_fallOn 28 (.iload_n 2) 1 29 := ⟨by decide +kernel, rfl⟩
theorem dX1_fallOn_29 : zD cX1_fallOn 29 (.iaload) 1 30 := ⟨by decide +kernel, rfl⟩
theorem dX1_fallOn_30 : zD cX1_fallOn 30 (.iastore) 1 31 := ⟨by decide +kernel, rfl⟩
theorem dX1_fallOn_31 : zD cX1_fallOn 31 (.aload_n 0) 1 32 := ⟨by decide +kernel, rfl⟩
theorem dX1_fallOn_32 : zD cX1_fallOn 32 (.getfield 18) 3 35 := ⟨by decide +kernel, rfl⟩
theorem dX1_fallOn_35 : zD cX1_fallOn 35 (.iconst 0) 1 36 := ⟨by decide +kernel, rfl⟩
theorem dX1_fallOn_36 : zD cX1_fallOn 36 (.lconst 1) 1 37 := ⟨by decide +kernel, rfl⟩
theorem dX1_fallOn_37 : zD cX1_fallOn 37 (.lastore) 1 38 := ⟨by decide +kernel, rfl⟩
theorem dX1_fallOn_38 : zD cX1_fallOn 38 (.aload_n 0) 1 39 := ⟨by decide +kernel, rfl⟩
theorem dX1_fallOn_39 : zD cX1_fallOn 39 (.iconst 1) 1 40 := ⟨by decide +kernel, rfl⟩
theorem dX1_fallOn_40 : zD cX1_fallOn 40 (.putfield 22) 3 43 := ⟨by decide +kernel, rfl⟩
theorem dX1_fallOn_43 : zD cX1_fallOn 43 (.iconst 0) 1 44 := ⟨by decide +kernel, rfl⟩
theorem dX1_fallOn_44 : zD cX1_fallOn 44 (.istore 6) 2 46 := ⟨by decide +kernel, rfl⟩
theorem dX1_fallOn_46 : zD cX1_fallOn 46 (.iload 6) 2 48 := ⟨by decide +kernel, rfl⟩
theorem dX1_fallOn_48 : zD cX1_fallOn 48 (.iload_n 3) 1 49 := ⟨by decide +kernel, rfl⟩
theorem dX1_fallOn_49 : zJ cX1_fallOn 49 (fun o => .if_icmp .ge o) 88 52 := ⟨39, by decide +kernel, by decide, rfl⟩
theorem dX1_fallOn_52 : zD cX1_fallOn 52 (.iconst 2) 1 53 := ⟨by decide +kernel, rfl⟩
theorem dX1_fallOn_53 : zD cX1_fallOn 53 (.aload_n 0) 1 54 := ⟨by decide +kernel, rfl⟩
theorem dX1_fallOn_54 : zD cX1_fallOn 54 (.getfield 22) 3 57 := ⟨by decide +kernel, rfl⟩
theorem dX1_fallOn_57 : zD cX1_fallOn 57 (.imul) 1 58 := ⟨by decide +kernel, rfl⟩
theorem dX1_fallOn_58 : zD cX1_fallOn 58 (.sipush 256) 3 61 := ⟨by decide +kernel, rfl⟩
theorem dX1_fallOn_61 : zJ cX1_fallOn 61 (fun o => .if_icmp .gt o) 88 64 := ⟨27, by decide +kernel, by decide, rfl⟩
theorem dX1_fallOn_64 : zD cX1_fallOn 64 (.aload_n 0) 1 65 := ⟨by decide +kernel, rfl⟩
theorem dX1_fallOn_65 : zD cX1_fallOn 65 (.iload 4) 2 67 := ⟨by decide +kernel, rfl⟩
theorem dX1_fallOn_67 : zD cX1_fallOn 67 (.invokevirtual 34) 3 70 := ⟨by decide +kernel, rfl⟩
theorem dX1_fallOn_70 : zD cX1_fallOn 70 (.aload_n 0) 1 71 := ⟨by decide +kernel, rfl⟩
theorem dX1_fallOn_71 : zD cX1_fallOn 71 (.aload_n 1) 1 72 := ⟨by decide +kernel, rfl⟩
theorem dX1_fallOn_72 : zD cX1_fallOn 72 (.getfield 38) 3 75 := ⟨by decide +kernel, rfl⟩
theorem dX1_fallOn_75 : zD cX1_fallOn 75 (.iload_n 2) 1 76 := ⟨by decide +kernel, rfl⟩
theorem dX1_fallOn_76 : zD cX1_fallOn 76 (.iaload) 1 77 := ⟨by decide +kernel, rfl⟩
theorem dX1_fallOn_77 : zD cX1_fallOn 77 (.iload 5) 2 79 := ⟨by decide +kernel, rfl⟩
theorem dX1_fallOn_79 : zD cX1_fallOn 79 (.invokevirtual 41) 3 82 := ⟨by decide +kernel, rfl⟩
theorem dX1_fallOn_82 : zD cX1_fallOn 82 (.iinc 6 1) 3 85 := ⟨by decide +kernel, rfl⟩
theorem dX1_fallOn_85 : zG cX1_fallOn 85 46 := ⟨(-39), by decide +kernel, by decide⟩
theorem dX1_fallOn_88 : zD cX1_fallOn 88 (.return_) 1 89 := ⟨by decide +kernel, rfl⟩
theorem dX1_part_0 : zD cX1_part 0 (.iconst 0) 1 1 := ⟨by decide +kernel, rfl⟩
theorem dX1_part_1 : zD cX1_part 1 (.istore_n 2) 1 2 := ⟨by decide +kernel, rfl⟩
theorem dX1_part_2 : zD cX1_part 2 (.iload_n 2) 1 3 := ⟨by decide +kernel, rfl⟩
theorem dX1_part_3 : zD cX1_part 3 (.aload_n 0) 1 4 := ⟨by decide +kernel, rfl⟩
theorem dX1_part_4 : zD cX1_part 4 (.getfield 22) 3 7 := ⟨by decide +kernel, rfl⟩
theorem dX1_part_7 : zJ cX1_part 7 (fun o => .if_icmp .ge o) 91 10 := ⟨84, by decide +kernel, by decide, rfl⟩
theorem dX1_part_10 : zD cX1_part 10 (.aload_n 0) 1 11 := ⟨by decide +kernel, rfl⟩
theorem dX1_part_11 : zD cX1_part 11 (.getfield 11) 3 14 := ⟨by decide +kernel, rfl⟩
theorem dX1_part_14 : zD cX1_part 14 (.aload_n 0) 1 15 := ⟨by decide +kernel, rfl⟩
theorem dX1_part_15 : zD cX1_part 15 (.getfield 22) 3 18 := ⟨by decide +kernel, rfl⟩
theorem dX1_part_18 : zD cX1_part 18 (.iload_n 2) 1 19 := ⟨by decide +kernel, rfl⟩
theorem dX1_part_19 : zD cX1_part 19 (.iadd) 1 20 := ⟨by decide +kernel, rfl⟩
theorem dX1_part_20 : zD cX1_part 20 (.aload_n 0) 1 21 := ⟨by decide +kernel, rfl⟩
theorem dX1_part_21 : zD cX1_part 21 (.getfield 11) 3 24 := ⟨by decide +kernel, rfl⟩
theorem dX1_part_24 : zD cX1_part 24 (.iload_n 2) 1 25 := ⟨by decide +kernel, rfl⟩
theorem dX1_part_25 : zD cX1_part 25 (.iaload) 1 26 := ⟨by decide +kernel, rfl⟩
theorem dX1_part_26 : zD cX1_part 26 (.iastore) 1 27 := ⟨by decide +kernel, rfl⟩
theorem dX1_part_27 : zD cX1_part 27 (.aload_n 0) 1 28 := ⟨by decide +kernel, rfl⟩
theorem dX1_part_28 : zD cX1_part 28 (.getfield 15) 3 31 := ⟨by decide +kernel, rfl⟩
theorem dX1_part_31 : zD cX1_part 31 (.aload_n 0) 1 32 := ⟨by decide +kernel, rfl⟩
theorem dX1_part_32 : zD cX1_part 32 (.getfield 22) 3 35 := ⟨by decide +kernel, rfl⟩
theorem dX1_part_35 : zD cX1_part 35 (.iload_n 2) 1 36 := ⟨by decide +kernel, rfl⟩
theorem dX1_part_36 : zD cX1_part 36 (.iadd) 1 37 := ⟨by decide +kernel, rfl⟩
theorem dX1_part_37 : zD cX1_part 37 (.bipush 9) 2 39 := ⟨by decide +kernel, rfl⟩
theorem dX1_part_39 : zD cX1_part 39 (.aload_n 0) 1 40 := ⟨by decide +kernel, rfl⟩
theorem dX1_part_40 : zD cX1_part 40 (.getfield 15) 3 43 := ⟨by decide +kernel, rfl⟩
theorem dX1_part_43 : zD cX1_part 43 (.iload_n 2) 1 44 := ⟨by decide +kernel, rfl⟩
theorem dX1_part_44 : zD cX1_part 44 (.iaload) 1 45 := ⟨by decide +kernel, rfl⟩
theorem dX1_part_45 : zD cX1_part 45 (.iconst 2) 1 46 := ⟨by decide +kernel, rfl⟩
theorem dX1_part_46 : zD cX1_part 46 (.iadd) 1 47 := ⟨by decide +kernel, rfl⟩
theorem dX1_part_47 : zD cX1_part 47 (.invokestatic 45) 3 50 := ⟨by decide +kernel, rfl⟩
theorem dX1_part_50 : zD cX1_part 50 (.iastore) 1 51 := ⟨by decide +kernel, rfl⟩
theorem dX1_part_51 : zD cX1_part 51 (.aload_n 0) 1 52 := ⟨by decide +kernel, rfl⟩
theorem dX1_part_52 : zD cX1_part 52 (.getfield 18) 3 55 := ⟨by decide +kernel, rfl⟩
theorem dX1_part_55 : zD cX1_part 55 (.aload_n 0) 1 56 := ⟨by decide +kernel, rfl⟩
theorem dX1_part_56 : zD cX1_part 56 (.getfield 22) 3 59 := ⟨by decide +kernel, rfl⟩
theorem dX1_part_59 : zD cX1_part 59 (.iload_n 2) 1 60 := ⟨by decide +kernel, rfl⟩
theorem dX1_part_60 : zD cX1_part 60 (.iadd) 1 61 := ⟨by decide +kernel, rfl⟩
theorem dX1_part_61 : zD cX1_part 61 (.aload_n 0) 1 62 := ⟨by decide +kernel, rfl⟩
theorem dX1_part_62 : zD cX1_part 62 (.getfield 18) 3 65 := ⟨by decide +kernel, rfl⟩
theorem dX1_part_65 : zD cX1_part 65 (.iload_n 2) 1 66 := ⟨by decide +kernel, rfl⟩
theorem dX1_part_66 : zD cX1_part 66 (.laload) 1 67 := ⟨by decide +kernel, rfl⟩
theorem dX1_part_67 : zD cX1_part 67 (.iload_n 1) 1 68 := ⟨by decide +kernel, rfl⟩
theorem dX1_part_68 : zD cX1_part 68 (.i2l) 1 69 := ⟨by decide +kernel, rfl⟩
theorem dX1_part_69 : zD cX1_part 69 (.lmul) 1 70 := ⟨by decide +kernel, rfl⟩
theorem dX1_part_70 : zD cX1_part 70 (.lastore) 1 71 := ⟨by decide +kernel, rfl⟩
theorem dX1_part_71 : zD cX1_part 71 (.aload_n 0) 1 72 := ⟨by decide +kernel, rfl⟩
theorem dX1_part_72 : zD cX1_part 72 (.getfield 18) 3 75 := ⟨by decide +kernel, rfl⟩
theorem dX1_part_75 : zD cX1_part 75 (.iload_n 2) 1 76 := ⟨by decide +kernel, rfl⟩
theorem dX1_part_76 : zD cX1_part 76 (.dup2) 1 77 := ⟨by decide +kernel, rfl⟩
theorem dX1_part_77 : zD cX1_part 77 (.laload) 1 78 := ⟨by decide +kernel, rfl⟩
theorem dX1_part_78 : zD cX1_part 78 (.bipush 10) 2 80 := ⟨by decide +kernel, rfl⟩
theorem dX1_part_80 : zD cX1_part 80 (.iload_n 1) 1 81 := ⟨by decide +kernel, rfl⟩
theorem dX1_part_81 : zD cX1_part 81 (.isub) 1 82 := ⟨by decide +kernel, rfl⟩
theorem dX1_part_82 : zD cX1_part 82 (.i2l) 1 83 := ⟨by decide +kernel, rfl⟩
theorem dX1_part_83 : zD cX1_part 83 (.lmul) 1 84 := ⟨by decide +kernel, rfl⟩
theorem dX1_part_84 : zD cX1_part 84 (.lastore) 1 85 := ⟨by decide +kernel, rfl⟩
theorem dX1_part_85 : zD cX1_part 85 (.iinc 2 1) 3 88 := ⟨by decide +kernel, rfl⟩
theorem dX1_part_88 : zG cX1_part 88 2 := ⟨(-86), by decide +kernel, by decide⟩
theorem dX1_part_91 : zD cX1_part 91 (.aload_n 0) 1 92 := ⟨by decide +kernel, rfl⟩
theorem dX1_part_92 : zD cX1_part 92 (.dup) 1 93 := ⟨by decide +kernel, rfl⟩
theorem dX1_part_93 : zD cX1_part 93 (.getfield 22) 3 96 := ⟨by decide +kernel, rfl⟩
theorem dX1_part_96 : zD cX1_part 96 (.iconst 2) 1 97 := ⟨by decide +kernel, rfl⟩
theorem dX1_part_97 : zD cX1_part 97 (.imul) 1 98 := ⟨by decide +kernel, rfl⟩
theorem dX1_part_98 : zD cX1_part 98 (.putfield 22) 3 101 := ⟨by decide +kernel, rfl⟩
theorem dX1_part_101 : zD cX1_part 101 (.return_) 1 102 := ⟨by decide +kernel, rfl⟩
theorem dX1_passWeek_0 : zD cX1_passWeek 0 (.iconst 0) 1 1 := ⟨by decide +kernel, rfl⟩
theorem dX1_passWeek_1 : zD cX1_passWeek 1 (.istore_n 3) 1 2 := ⟨by decide +kernel, rfl⟩
theorem dX1_passWeek_2 : zD cX1_passWeek 2 (.iload_n 3) 1 3 := ⟨by decide +kernel, rfl⟩
theorem dX1_passWeek_3 : zD cX1_passWeek 3 (.aload_n 0) 1 4 := ⟨by decide +kernel, rfl⟩
theorem dX1_passWeek_4 : zD cX1_passWeek 4 (.getfield 22) 3 7 := ⟨by decide +kernel, rfl⟩
theorem dX1_passWeek_7 : zJ cX1_passWeek 7 (fun o => .if_icmp .ge o) 56 10 := ⟨49, by decide +kernel, by decide, rfl⟩
theorem dX1_passWeek_10 : zD cX1_passWeek 10 (.aload_n 0) 1 11 := ⟨by decide +kernel, rfl⟩
theorem dX1_passWeek_11 : zD cX1_passWeek 11 (.getfield 11) 3 14 := ⟨by decide +kernel, rfl⟩
theorem dX1_passWeek_14 : zD cX1_passWeek 14 (.iload_n 3) 1 15 := ⟨by decide +kernel, rfl⟩
theorem dX1_passWeek_15 : zD cX1_passWeek 15 (.iload_n 1) 1 16 := ⟨by decide +kernel, rfl⟩
theorem dX1_passWeek_16 : zD cX1_passWeek 16 (.aload_n 0) 1 17 := ⟨by decide +kernel, rfl⟩
theorem dX1_passWeek_17 : zD cX1_passWeek 17 (.getfield 11) 3 20 := ⟨by decide +kernel, rfl⟩
theorem dX1_passWeek_20 : zD cX1_passWeek 20 (.iload_n 3) 1 21 := ⟨by decide +kernel, rfl⟩
theorem dX1_passWeek_21 : zD cX1_passWeek 21 (.iaload) 1 22 := ⟨by decide +kernel, rfl⟩
theorem dX1_passWeek_22 : zD cX1_passWeek 22 (.aload_n 0) 1 23 := ⟨by decide +kernel, rfl⟩
theorem dX1_passWeek_23 : zD cX1_passWeek 23 (.getfield 15) 3 26 := ⟨by decide +kernel, rfl⟩
theorem dX1_passWeek_26 : zD cX1_passWeek 26 (.iload_n 3) 1 27 := ⟨by decide +kernel, rfl⟩
theorem dX1_passWeek_27 : zD cX1_passWeek 27 (.iaload) 1 28 := ⟨by decide +kernel, rfl⟩
theorem dX1_passWeek_28 : zD cX1_passWeek 28 (.iload_n 2) 1 29 := ⟨by decide +kernel, rfl⟩
theorem dX1_passWeek_29 : zD cX1_passWeek 29 (.invokestatic 51) 3 32 := ⟨by decide +kernel, rfl⟩
theorem dX1_passWeek_32 : zD cX1_passWeek 32 (.iastore) 1 33 := ⟨by decide +kernel, rfl⟩
theorem dX1_passWeek_33 : zD cX1_passWeek 33 (.aload_n 0) 1 34 := ⟨by decide +kernel, rfl⟩
theorem dX1_passWeek_34 : zD cX1_passWeek 34 (.getfield 15) 3 37 := ⟨by decide +kernel, rfl⟩
theorem dX1_passWeek_37 : zD cX1_passWeek 37 (.iload_n 3) 1 38 := ⟨by decide +kernel, rfl⟩
theorem dX1_passWeek_38 : zD cX1_passWeek 38 (.iload_n 1) 1 39 := ⟨by decide +kernel, rfl⟩
theorem dX1_passWeek_39 : zD cX1_passWeek 39 (.aload_n 0) 1 40 := ⟨by decide +kernel, rfl⟩
theorem dX1_passWeek_40 : zD cX1_passWeek 40 (.getfield 15) 3 43 := ⟨by decide +kernel, rfl⟩
theorem dX1_passWeek_43 : zD cX1_passWeek 43 (.iload_n 3) 1 44 := ⟨by decide +kernel, rfl⟩
theorem dX1_passWeek_44 : zD cX1_passWeek 44 (.iaload) 1 45 := ⟨by decide +kernel, rfl⟩
theorem dX1_passWeek_45 : zD cX1_passWeek 45 (.iload_n 2) 1 46 := ⟨by decide +kernel, rfl⟩
theorem dX1_passWeek_46 : zD cX1_passWeek 46 (.invokestatic 55) 3 49 := ⟨by decide +kernel, rfl⟩
theorem dX1_passWeek_49 : zD cX1_passWeek 49 (.iastore) 1 50 := ⟨by decide +kernel, rfl⟩
theorem dX1_passWeek_50 : zD cX1_passWeek 50 (.iinc 3 1) 3 53 := ⟨by decide +kernel, rfl⟩
theorem dX1_passWeek_53 : zG cX1_passWeek 53 2 := ⟨(-51), by decide +kernel, by decide⟩
theorem dX1_passWeek_56 : zD cX1_passWeek 56 (.return_) 1 57 := ⟨by decide +kernel, rfl⟩
theorem dX1_weightOf_0 : zD cX1_weightOf 0 (.lconst 0) 1 1 := ⟨by decide +kernel, rfl⟩
theorem dX1_weightOf_1 : zD cX1_weightOf 1 (.lstore_n 2) 1 2 := ⟨by decide +kernel, rfl⟩
theorem dX1_weightOf_2 : zD cX1_weightOf 2 (.iconst 0) 1 3 := ⟨by decide +kernel, rfl⟩
theorem dX1_weightOf_3 : zD cX1_weightOf 3 (.istore 4) 2 5 := ⟨by decide +kernel, rfl⟩
theorem dX1_weightOf_5 : zD cX1_weightOf 5 (.iload 4) 2 7 := ⟨by decide +kernel, rfl⟩
theorem dX1_weightOf_7 : zD cX1_weightOf 7 (.aload_n 0) 1 8 := ⟨by decide +kernel, rfl⟩
theorem dX1_weightOf_8 : zD cX1_weightOf 8 (.getfield 22) 3 11 := ⟨by decide +kernel, rfl⟩
theorem dX1_weightOf_11 : zJ cX1_weightOf 11 (fun o => .if_icmp .ge o) 41 14 := ⟨30, by decide +kernel, by decide, rfl⟩
theorem dX1_weightOf_14 : zD cX1_weightOf 14 (.aload_n 0) 1 15 := ⟨by decide +kernel, rfl⟩
theorem dX1_weightOf_15 : zD cX1_weightOf 15 (.getfield 11) 3 18 := ⟨by decide +kernel, rfl⟩
theorem dX1_weightOf_18 : zD cX1_weightOf 18 (.iload 4) 2 20 := ⟨by decide +kernel, rfl⟩
theorem dX1_weightOf_20 : zD cX1_weightOf 20 (.iaload) 1 21 := ⟨by decide +kernel, rfl⟩
theorem dX1_weightOf_21 : zD cX1_weightOf 21 (.iload_n 1) 1 22 := ⟨by decide +kernel, rfl⟩
theorem dX1_weightOf_22 : zJ cX1_weightOf 22 (fun o => .if_icmp .lt o) 35 25 := ⟨13, by decide +kernel, by decide, rfl⟩
theorem dX1_weightOf_25 : zD cX1_weightOf 25 (.lload_n 2) 1 26 := ⟨by decide +kernel, rfl⟩
theorem dX1_weightOf_26 : zD cX1_weightOf 26 (.aload_n 0) 1 27 := ⟨by decide +kernel, rfl⟩
theorem dX1_weightOf_27 : zD cX1_weightOf 27 (.getfield 18) 3 30 := ⟨by decide +kernel, rfl⟩
theorem dX1_weightOf_30 : zD cX1_weightOf 30 (.iload 4) 2 32 := ⟨by decide +kernel, rfl⟩
theorem dX1_weightOf_32 : zD cX1_weightOf 32 (.laload) 1 33 := ⟨by decide +kernel, rfl⟩
theorem dX1_weightOf_33 : zD cX1_weightOf 33 (.ladd) 1 34 := ⟨by decide +kernel, rfl⟩
theorem dX1_weightOf_34 : zD cX1_weightOf 34 (.lstore_n 2) 1 35 := ⟨by decide +kernel, rfl⟩
theorem dX1_weightOf_35 : zD cX1_weightOf 35 (.iinc 4 1) 3 38 := ⟨by decide +kernel, rfl⟩
theorem dX1_weightOf_38 : zG cX1_weightOf 38 5 := ⟨(-33), by decide +kernel, by decide⟩
theorem dX1_weightOf_41 : zD cX1_weightOf 41 (.lload_n 2) 1 42 := ⟨by decide +kernel, rfl⟩
theorem dX1_weightOf_42 : zD cX1_weightOf 42 (.lreturn) 1 43 := ⟨by decide +kernel, rfl⟩
theorem dX1_weighedEars_0 : zD cX1_weighedEars 0 (.lconst 0) 1 1 := ⟨by decide +kernel, rfl⟩
theorem dX1_weighedEars_1 : zD cX1_weighedEars 1 (.lstore_n 1) 1 2 := ⟨by decide +kernel, rfl⟩
theorem dX1_weighedEars_2 : zD cX1_weighedEars 2 (.iconst 0) 1 3 := ⟨by decide +kernel, rfl⟩
theorem dX1_weighedEars_3 : zD cX1_weighedEars 3 (.istore_n 3) 1 4 := ⟨by decide +kernel, rfl⟩
theorem dX1_weighedEars_4 : zD cX1_weighedEars 4 (.iload_n 3) 1 5 := ⟨by decide +kernel, rfl⟩
theorem dX1_weighedEars_5 : zD cX1_weighedEars 5 (.aload_n 0) 1 6 := ⟨by decide +kernel, rfl⟩
theorem dX1_weighedEars_6 : zD cX1_weighedEars 6 (.getfield 22) 3 9 := ⟨by decide +kernel, rfl⟩
theorem dX1_weighedEars_9 : zJ cX1_weighedEars 9 (fun o => .if_icmp .ge o) 35 12 := ⟨26, by decide +kernel, by decide, rfl⟩
theorem dX1_weighedEars_12 : zD cX1_weighedEars 12 (.lload_n 1) 1 13 := ⟨by decide +kernel, rfl⟩
theorem dX1_weighedEars_13 : zD cX1_weighedEars 13 (.aload_n 0) 1 14 := ⟨by decide +kernel, rfl⟩
theorem dX1_weighedEars_14 : zD cX1_weighedEars 14 (.getfield 18) 3 17 := ⟨by decide +kernel, rfl⟩
theorem dX1_weighedEars_17 : zD cX1_weighedEars 17 (.iload_n 3) 1 18 := ⟨by decide +kernel, rfl⟩
theorem dX1_weighedEars_18 : zD cX1_weighedEars 18 (.laload) 1 19 := ⟨by decide +kernel, rfl⟩
theorem dX1_weighedEars_19 : zD cX1_weighedEars 19 (.aload_n 0) 1 20 := ⟨by decide +kernel, rfl⟩
theorem dX1_weighedEars_20 : zD cX1_weighedEars 20 (.getfield 11) 3 23 := ⟨by decide +kernel, rfl⟩
theorem dX1_weighedEars_23 : zD cX1_weighedEars 23 (.iload_n 3) 1 24 := ⟨by decide +kernel, rfl⟩
theorem dX1_weighedEars_24 : zD cX1_weighedEars 24 (.iaload) 1 25 := ⟨by decide +kernel, rfl⟩
theorem dX1_weighedEars_25 : zD cX1_weighedEars 25 (.i2l) 1 26 := ⟨by decide +kernel, rfl⟩
theorem dX1_weighedEars_26 : zD cX1_weighedEars 26 (.lmul) 1 27 := ⟨by decide +kernel, rfl⟩
theorem dX1_weighedEars_27 : zD cX1_weighedEars 27 (.ladd) 1 28 := ⟨by decide +kernel, rfl⟩
theorem dX1_weighedEars_28 : zD cX1_weighedEars 28 (.lstore_n 1) 1 29 := ⟨by decide +kernel, rfl⟩
theorem dX1_weighedEars_29 : zD cX1_weighedEars 29 (.iinc 3 1) 3 32 := ⟨by decide +kernel, rfl⟩
theorem dX1_weighedEars_32 : zG cX1_weighedEars 32 4 := ⟨(-28), by decide +kernel, by decide⟩
theorem dX1_weighedEars_35 : zD cX1_weighedEars 35 (.lload_n 1) 1 36 := ⟨by decide +kernel, rfl⟩
theorem dX1_weighedEars_36 : zD cX1_weighedEars 36 (.lreturn) 1 37 := ⟨by decide +kernel, rfl⟩
theorem dX2_init_0 : zD cX2_init 0 (.aload_n 0) 1 1 := ⟨by decide +kernel, rfl⟩
theorem dX2_init_1 : zD cX2_init 1 (.invokespecial 3) 3 4 := ⟨by decide +kernel, rfl⟩
theorem dX2_init_4 : zD cX2_init 4 (.aload_n 0) 1 5 := ⟨by decide +kernel, rfl⟩
theorem dX2_init_5 : zD cX2_init 5 (.bipush 6) 2 7 := ⟨by decide +kernel, rfl⟩
theorem dX2_init_7 : zD cX2_init 7 (.newarray .int) 2 9 := ⟨by decide +kernel, rfl⟩
theorem dX2_init_9 : zD cX2_init 9 (.putfield 9) 3 12 := ⟨by decide +kernel, rfl⟩
theorem dX2_init_12 : zD cX2_init 12 (.aload_n 0) 1 13 := ⟨by decide +kernel, rfl⟩
theorem dX2_init_13 : zD cX2_init 13 (.bipush 6) 2 15 := ⟨by decide +kernel, rfl⟩
theorem dX2_init_15 : zD cX2_init 15 (.newarray .int) 2 17 := ⟨by decide +kernel, rfl⟩
theorem dX2_init_17 : zD cX2_init 17 (.putfield 15) 3 20 := ⟨by decide +kernel, rfl⟩
theorem dX2_init_20 : zD cX2_init 20 (.aload_n 0) 1 21 := ⟨by decide +kernel, rfl⟩
theorem dX2_init_21 : zD cX2_init 21 (.bipush 6) 2 23 := ⟨by decide +kernel, rfl⟩
theorem dX2_init_23 : zD cX2_init 23 (.newarray .int) 2 25 := ⟨by decide +kernel, rfl⟩
theorem dX2_init_25 : zD cX2_init 25 (.putfield 18) 3 28 := ⟨by decide +kernel, rfl⟩
theorem dX2_init_28 : zD cX2_init 28 (.aload_n 0) 1 29 := ⟨by decide +kernel, rfl⟩
theorem dX2_init_29 : zD cX2_init 29 (.iconst 4) 1 30 := ⟨by decide +kernel, rfl⟩
theorem dX2_init_30 : zD cX2_init 30 (.newarray .int) 2 32 := ⟨by decide +kernel, rfl⟩
theorem dX2_init_32 : zD cX2_init 32 (.putfield 21) 3 35 := ⟨by decide +kernel, rfl⟩
theorem dX2_init_35 : zD cX2_init 35 (.aload_n 0) 1 36 := ⟨by decide +kernel, rfl⟩
theorem dX2_init_36 : zD cX2_init 36 (.iconst 4) 1 37 := ⟨by decide +kernel, rfl⟩
theorem dX2_init_37 : zD cX2_init 37 (.newarray .int) 2 39 := ⟨by decide +kernel, rfl⟩
theorem dX2_init_39 : zD cX2_init 39 (.putfield 24) 3 42 := ⟨by decide +kernel, rfl⟩
theorem dX2_init_42 : zD cX2_init 42 (.aload_n 0) 1 43 := ⟨by decide +kernel, rfl⟩
theorem dX2_init_43 : zD cX2_init 43 (.bipush 6) 2 45 := ⟨by decide +kernel, rfl⟩
theorem dX2_init_45 : zD cX2_init 45 (.newarray .int) 2 47 := ⟨by decide +kernel, rfl⟩
theorem dX2_init_47 : zD cX2_init 47 (.putfield 27) 3 50 := ⟨by decide +kernel, rfl⟩
theorem dX2_init_50 : zD cX2_init 50 (.aload_n 0) 1 51 := ⟨by decide +kernel, rfl⟩
theorem dX2_init_51 : zD cX2_init 51 (.bipush 6) 2 53 := ⟨by decide +kernel, rfl⟩
theorem dX2_init_53 : zD cX2_init 53 (.newarray .int) 2 55 := ⟨by decide +kernel, rfl⟩
theorem dX2_init_55 : zD cX2_init 55 (.putfield 30) 3 58 := ⟨by decide +kernel, rfl⟩
theorem dX2_init_58 : zD cX2_init 58 (.aload_n 0) 1 59 := ⟨by decide +kernel, rfl⟩
theorem dX2_init_59 : zD cX2_init 59 (.bipush 6) 2 61 := ⟨by decide +kernel, rfl⟩
theorem dX2_init_61 : zD cX2_init 61 (.newarray .int) 2 63 := ⟨by decide +kernel, rfl⟩
theorem dX2_init_63 : zD cX2_init 63 (.putfield 33) 3 66 := ⟨by decide +kernel, rfl⟩
theorem dX2_init_66 : zD cX2_init 66 (.aload_n 0) 1 67 := ⟨by decide +kernel, rfl⟩
theorem dX2_init_67 : zD cX2_init 67 (.iconst 0) 1 68 := ⟨by decide +kernel, rfl⟩
theorem dX2_init_68 : zD cX2_init 68 (.putfield 36) 3 71 := ⟨by decide +kernel, rfl⟩
theorem dX2_init_71 : zD cX2_init 71 (.aload_n 0) 1 72 := ⟨by decide +kernel, rfl⟩
theorem dX2_init_72 : zD cX2_init 72 (.iconst 0) 1 73 := ⟨by decide +kernel, rfl⟩
theorem dX2_init_73 : zD cX2_init 73 (.putfield 40) 3 76 := ⟨by decide +kernel, rfl⟩
theorem dX2_init_76 : zD cX2_init 76 (.aload_n 0) 1 77 := ⟨by decide +kernel, rfl⟩
theorem dX2_init_77 : zD cX2_init 77 (.iconst 0) 1 78 := ⟨by decide +kernel, rfl⟩
theorem dX2_init_78 : zD cX2_init 78 (.putfield 43) 3 81 := ⟨by decide +kernel, rfl⟩
theorem dX2_init_81 : zD cX2_init 81 (.aload_n 0) 1 82 := ⟨by decide +kernel, rfl⟩
theorem dX2_init_82 : zD cX2_init 82 (.bipush 20) 2 84 := ⟨by decide +kernel, rfl⟩
theorem dX2_init_84 : zD cX2_init 84 (.putfield 46) 3 87 := ⟨by decide +kernel, rfl⟩
theorem dX2_init_87 : zD cX2_init 87 (.aload_n 0) 1 88 := ⟨by decide +kernel, rfl⟩
theorem dX2_init_88 : zD cX2_init 88 (.iconst 0) 1 89 := ⟨by decide +kernel, rfl⟩
theorem dX2_init_89 : zD cX2_init 89 (.putfield 49) 3 92 := ⟨by decide +kernel, rfl⟩
theorem dX2_init_92 : zD cX2_init 92 (.aload_n 0) 1 93 := ⟨by decide +kernel, rfl⟩
theorem dX2_init_93 : zD cX2_init 93 (.iconst 0) 1 94 := ⟨by decide +kernel, rfl⟩
theorem dX2_init_94 : zD cX2_init 94 (.putfield 52) 3 97 := ⟨by decide +kernel, rfl⟩
theorem dX2_init_97 : zD cX2_init 97 (.return_) 1 98 := ⟨by decide +kernel, rfl⟩
theorem dX2_clear_0 : zD cX2_clear 0 (.aload_n 0) 1 1 := ⟨by decide +kernel, rfl⟩
theorem dX2_clear_1 : zD cX2_clear 1 (.iconst 0) 1 2 := ⟨by decide +kernel, rfl⟩
theorem dX2_clear_2 : zD cX2_clear 2 (.putfield 36) 3 5 := ⟨by decide +kernel, rfl⟩
theorem dX2_clear_5 : zD cX2_clear 5 (.aload_n 0) 1 6 := ⟨by decide +kernel, rfl⟩
theorem dX2_clear_6 : zD cX2_clear 6 (.iconst 0) 1 7 := ⟨by decide +kernel, rfl⟩
theorem dX2_clear_7 : zD cX2_clear 7 (.putfield 40) 3 10 := ⟨by decide +kernel, rfl⟩
theorem dX2_clear_10 : zD cX2_clear 10 (.aload_n 0) 1 11 := ⟨by decide +kernel, rfl⟩
theorem dX2_clear_11 : zD cX2_clear 11 (.iconst 0) 1 12 := ⟨by decide +kernel, rfl⟩
theorem dX2_clear_12 : zD cX2_clear 12 (.putfield 43) 3 15 := ⟨by decide +kernel, rfl⟩
theorem dX2_clear_15 : zD cX2_clear 15 (.aload_n 0) 1 16 := ⟨by decide +kernel, rfl⟩
theorem dX2_clear_16 : zD cX2_clear 16 (.bipush 20) 2 18 := ⟨by decide +kernel, rfl⟩
theorem dX2_clear_18 : zD cX2_clear 18 (.putfield 46) 3 21 := ⟨by decide +kernel, rfl⟩
theorem dX2_clear_21 : zD cX2_clear 21 (.aload_n 0) 1 22 := ⟨by decide +kernel, rfl⟩
theorem dX2_clear_22 : zD cX2_clear 22 (.iconst 0) 1 23 := ⟨by decide +kernel, rfl⟩
theorem dX2_clear_23 : zD cX2_clear 23 (.putfield 49) 3 26 := ⟨by decide +kernel, rfl⟩
theorem dX2_clear_26 : zD cX2_clear 26 (.aload_n 0) 1 27 := ⟨by decide +kernel, rfl⟩
theorem dX2_clear_27 : zD cX2_clear 27 (.iconst 0) 1 28 := ⟨by decide +kernel, rfl⟩
theorem dX2_clear_28 : zD cX2_clear 28 (.putfield 52) 3 31 := ⟨by decide +kernel, rfl⟩
theorem dX2_clear_31 : zD cX2_clear 31 (.return_) 1 32 := ⟨by decide +kernel, rfl⟩
theorem dX2_copyFrom_0 : zD cX2_copyFrom 0 (.aload_n 1) 1 1 := ⟨by decide +kernel, rfl⟩
theorem dX2_copyFrom_1 : zD cX2_copyFrom 1 (.getfield 9) 3 4 := ⟨by decide +kernel, rfl⟩
theorem dX2_copyFrom_4 : zD cX2_copyFrom 4 (.iconst 0) 1 5 := ⟨by decide +kernel, rfl⟩
theorem dX2_copyFrom_5 : zD cX2_copyFrom 5 (.aload_n 0) 1 6 := ⟨by decide +kernel, rfl⟩
theorem dX2_copyFrom_6 : zD cX2_copyFrom 6 (.getfield 9) 3 9 := ⟨by decide +kernel, rfl⟩
theorem dX2_copyFrom_9 : zD cX2_copyFrom 9 (.iconst 0) 1 10 := ⟨by decide +kernel, rfl⟩
theorem dX2_copyFrom_10 : zD cX2_copyFrom 10 (.bipush 6) 2 12 := ⟨by decide +kernel, rfl⟩
theorem dX2_copyFrom_12 : zD cX2_copyFrom 12 (.invokestatic 55) 3 15 := ⟨by decide +kernel, rfl⟩
theorem dX2_copyFrom_15 : zD cX2_copyFrom 15 (.aload_n 1) 1 16 := ⟨by decide +kernel, rfl⟩
theorem dX2_copyFrom_16 : zD cX2_copyFrom 16 (.getfield 15) 3 19 := ⟨by decide +kernel, rfl⟩
theorem dX2_copyFrom_19 : zD cX2_copyFrom 19 (.iconst 0) 1 20 := ⟨by decide +kernel, rfl⟩
theorem dX2_copyFrom_20 : zD cX2_copyFrom 20 (.aload_n 0) 1 21 := ⟨by decide +kernel, rfl⟩
theorem dX2_copyFrom_21 : zD cX2_copyFrom 21 (.getfield 15) 3 24 := ⟨by decide +kernel, rfl⟩
theorem dX2_copyFrom_24 : zD cX2_copyFrom 24 (.iconst 0) 1 25 := ⟨by decide +kernel, rfl⟩
theorem dX2_copyFrom_25 : zD cX2_copyFrom 25 (.bipush 6) 2 27 := ⟨by decide +kernel, rfl⟩
theorem dX2_copyFrom_27 : zD cX2_copyFrom 27 (.invokestatic 55) 3 30 := ⟨by decide +kernel, rfl⟩
theorem dX2_copyFrom_30 : zD cX2_copyFrom 30 (.aload_n 1) 1 31 := ⟨by decide +kernel, rfl⟩
theorem dX2_copyFrom_31 : zD cX2_copyFrom 31 (.getfield 18) 3 34 := ⟨by decide +kernel, rfl⟩
theorem dX2_copyFrom_34 : zD cX2_copyFrom 34 (.iconst 0) 1 35 := ⟨by decide +kernel, rfl⟩
theorem dX2_copyFrom_35 : zD cX2_copyFrom 35 (.aload_n 0) 1 36 := ⟨by decide +kernel, rfl⟩
theorem dX2_copyFrom_36 : zD cX2_copyFrom 36 (.getfield 18) 3 39 := ⟨by decide +kernel, rfl⟩
theorem dX2_copyFrom_39 : zD cX2_copyFrom 39 (.iconst 0) 1 40 := ⟨by decide +kernel, rfl⟩
theorem dX2_copyFrom_40 : zD cX2_copyFrom 40 (.bipush 6) 2 42 := ⟨by decide +kernel, rfl⟩
theorem dX2_copyFrom_42 : zD cX2_copyFrom 42 (.invokestatic 55) 3 45 := ⟨by decide +kernel, rfl⟩
theorem dX2_copyFrom_45 : zD cX2_copyFrom 45 (.aload_n 1) 1 46 := ⟨by decide +kernel, rfl⟩
theorem dX2_copyFrom_46 : zD cX2_copyFrom 46 (.getfield 21) 3 49 := ⟨by decide +kernel, rfl⟩
theorem dX2_copyFrom_49 : zD cX2_copyFrom 49 (.iconst 0) 1 50 := ⟨by decide +kernel, rfl⟩
theorem dX2_copyFrom_50 : zD cX2_copyFrom 50 (.aload_n 0) 1 51 := ⟨by decide +kernel, rfl⟩
theorem dX2_copyFrom_51 : zD cX2_copyFrom 51 (.getfield 21) 3 54 := ⟨by decide +kernel, rfl⟩
theorem dX2_copyFrom_54 : zD cX2_copyFrom 54 (.iconst 0) 1 55 := ⟨by decide +kernel, rfl⟩
theorem dX2_copyFrom_55 : zD cX2_copyFrom 55 (.iconst 4) 1 56 := ⟨by decide +kernel, rfl⟩
theorem dX2_copyFrom_56 : zD cX2_copyFrom 56 (.invokestatic 55) 3 59 := ⟨by decide +kernel, rfl⟩
theorem dX2_copyFrom_59 : zD cX2_copyFrom 59 (.aload_n 1) 1 60 := ⟨by decide +kernel, rfl⟩
theorem dX2_copyFrom_60 : zD cX2_copyFrom 60 (.getfield 24) 3 63 := ⟨by decide +kernel, rfl⟩
theorem dX2_copyFrom_63 : zD cX2_copyFrom 63 (.iconst 0) 1 64 := ⟨by decide +kernel, rfl⟩
theorem dX2_copyFrom_64 : zD cX2_copyFrom 64 (.aload_n 0) 1 65 := ⟨by decide +kernel, rfl⟩
theorem dX2_copyFrom_65 : zD cX2_copyFrom 65 (.getfield 24) 3 68 := ⟨by decide +kernel, rfl⟩
theorem dX2_copyFrom_68 : zD cX2_copyFrom 68 (.iconst 0) 1 69 := ⟨by decide +kernel, rfl⟩
theorem dX2_copyFrom_69 : zD cX2_copyFrom 69 (.iconst 4) 1 70 := ⟨by decide +kernel, rfl⟩
theorem dX2_copyFrom_70 : zD cX2_copyFrom 70 (.invokestatic 55) 3 73 := ⟨by decide +kernel, rfl⟩
theorem dX2_copyFrom_73 : zD cX2_copyFrom 73 (.aload_n 1) 1 74 := ⟨by decide +kernel, rfl⟩
theorem dX2_copyFrom_74 : zD cX2_copyFrom 74 (.getfield 27) 3 77 := ⟨by decide +kernel, rfl⟩
theorem dX2_copyFrom_77 : zD cX2_copyFrom 77 (.iconst 0) 1 78 := ⟨by decide +kernel, rfl⟩
theorem dX2_copyFrom_78 : zD cX2_copyFrom 78 (.aload_n 0) 1 79 := ⟨by decide +kernel, rfl⟩
theorem dX2_copyFrom_79 : zD cX2_copyFrom 79 (.getfield 27) 3 82 := ⟨by decide +kernel, rfl⟩
theorem dX2_copyFrom_82 : zD cX2_copyFrom 82 (.iconst 0) 1 83 := ⟨by decide +kernel, rfl⟩
theorem dX2_copyFrom_83 : zD cX2_copyFrom 83 (.bipush 6) 2 85 := ⟨by decide +kernel, rfl⟩
theorem dX2_copyFrom_85 : zD cX2_copyFrom 85 (.invokestatic 55) 3 88 := ⟨by decide +kernel, rfl⟩
theorem dX2_copyFrom_88 : zD cX2_copyFrom 88 (.aload_n 1) 1 89 := ⟨by decide +kernel, rfl⟩
theorem dX2_copyFrom_89 : zD cX2_copyFrom 89 (.getfield 30) 3 92 := ⟨by decide +kernel, rfl⟩
theorem dX2_copyFrom_92 : zD cX2_copyFrom 92 (.iconst 0) 1 93 := ⟨by decide +kernel, rfl⟩
theorem dX2_copyFrom_93 : zD cX2_copyFrom 93 (.aload_n 0) 1 94 := ⟨by decide +kernel, rfl⟩
theorem dX2_copyFrom_94 : zD cX2_copyFrom 94 (.getfield 30) 3 97 := ⟨by decide +kernel, rfl⟩
theorem dX2_copyFrom_97 : zD cX2_copyFrom 97 (.iconst 0) 1 98 := ⟨by decide +kernel, rfl⟩
theorem dX2_copyFrom_98 : zD cX2_copyFrom 98 (.bipush 6) 2 100 := ⟨by decide +kernel, rfl⟩
theorem dX2_copyFrom_100 : zD cX2_copyFrom 100 (.invokestatic 55) 3 103 := ⟨by decide +kernel, rfl⟩
theorem dX2_copyFrom_103 : zD cX2_copyFrom 103 (.aload_n 1) 1 104 := ⟨by decide +kernel, rfl⟩
theorem dX2_copyFrom_104 : zD cX2_copyFrom 104 (.getfield 33) 3 107 := ⟨by decide +kernel, rfl⟩
theorem dX2_copyFrom_107 : zD cX2_copyFrom 107 (.iconst 0) 1 108 := ⟨by decide +kernel, rfl⟩
theorem dX2_copyFrom_108 : zD cX2_copyFrom 108 (.aload_n 0) 1 109 := ⟨by decide +kernel, rfl⟩
theorem dX2_copyFrom_109 : zD cX2_copyFrom 109 (.getfield 33) 3 112 := ⟨by decide +kernel, rfl⟩
theorem dX2_copyFrom_112 : zD cX2_copyFrom 112 (.iconst 0) 1 113 := ⟨by decide +kernel, rfl⟩
theorem dX2_copyFrom_113 : zD cX2_copyFrom 113 (.bipush 6) 2 115 := ⟨by decide +kernel, rfl⟩
theorem dX2_copyFrom_115 : zD cX2_copyFrom 115 (.invokestatic 55) 3 118 := ⟨by decide +kernel, rfl⟩
theorem dX2_copyFrom_118 : zD cX2_copyFrom 118 (.aload_n 0) 1 119 := ⟨by decide +kernel, rfl⟩
theorem dX2_copyFrom_119 : zD cX2_copyFrom 119 (.aload_n 1) 1 120 := ⟨by decide +kernel, rfl⟩
theorem dX2_copyFrom_120 : zD cX2_copyFrom 120 (.getfield 36) 3 123 := ⟨by decide +kernel, rfl⟩
theorem dX2_copyFrom_123 : zD cX2_copyFrom 123 (.putfield 36) 3 126 := ⟨by decide +kernel, rfl⟩
theorem dX2_copyFrom_126 : zD cX2_copyFrom 126 (.aload_n 0) 1 127 := ⟨by decide +kernel, rfl⟩
theorem dX2_copyFrom_127 : zD cX2_copyFrom 127 (.aload_n 1) 1 128 := ⟨by decide +kernel, rfl⟩
theorem dX2_copyFrom_128 : zD cX2_copyFrom 128 (.getfield 40) 3 131 := ⟨by decide +kernel, rfl⟩
theorem dX2_copyFrom_131 : zD cX2_copyFrom 131 (.putfield 40) 3 134 := ⟨by decide +kernel, rfl⟩
theorem dX2_copyFrom_134 : zD cX2_copyFrom 134 (.aload_n 0) 1 135 := ⟨by decide +kernel, rfl⟩
theorem dX2_copyFrom_135 : zD cX2_copyFrom 135 (.aload_n 1) 1 136 := ⟨by decide +kernel, rfl⟩
theorem dX2_copyFrom_136 : zD cX2_copyFrom 136 (.getfield 43) 3 139 := ⟨by decide +kernel, rfl⟩
theorem dX2_copyFrom_139 : zD cX2_copyFrom 139 (.putfield 43) 3 142 := ⟨by decide +kernel, rfl⟩
theorem dX2_copyFrom_142 : zD cX2_copyFrom 142 (.aload_n 0) 1 143 := ⟨by decide +kernel, rfl⟩
theorem dX2_copyFrom_143 : zD cX2_copyFrom 143 (.aload_n 1) 1 144 := ⟨by decide +kernel, rfl⟩
theorem dX2_copyFrom_144 : zD cX2_copyFrom 144 (.getfield 46) 3 147 := ⟨by decide +kernel, rfl⟩
theorem dX2_copyFrom_147 : zD cX2_copyFrom 147 (.putfield 46) 3 150 := ⟨by decide +kernel, rfl⟩
theorem dX2_copyFrom_150 : zD cX2_copyFrom 150 (.aload_n 0) 1 151 := ⟨by decide +kernel, rfl⟩
theorem dX2_copyFrom_151 : zD cX2_copyFrom 151 (.aload_n 1) 1 152 := ⟨by decide +kernel, rfl⟩
theorem dX2_copyFrom_152 : zD cX2_copyFrom 152 (.getfield 49) 3 155 := ⟨by decide +kernel, rfl⟩
theorem dX2_copyFrom_155 : zD cX2_copyFrom 155 (.putfield 49) 3 158 := ⟨by decide +kernel, rfl⟩
theorem dX2_copyFrom_158 : zD cX2_copyFrom 158 (.aload_n 0) 1 159 := ⟨by decide +kernel, rfl⟩
theorem dX2_copyFrom_159 : zD cX2_copyFrom 159 (.aload_n 1) 1 160 := ⟨by decide +kernel, rfl⟩
theorem dX2_copyFrom_160 : zD cX2_copyFrom 160 (.getfield 52) 3 163 := ⟨by decide +kernel, rfl⟩
theorem dX2_copyFrom_163 : zD cX2_copyFrom 163 (.putfield 52) 3 166 := ⟨by decide +kernel, rfl⟩
theorem dX2_copyFrom_166 : zD cX2_copyFrom 166 (.return_) 1 167 := ⟨by decide +kernel, rfl⟩
theorem dX2_addField_0 : zD cX2_addField 0 (.aload_n 0) 1 1 := ⟨by decide +kernel, rfl⟩
theorem dX2_addField_1 : zD cX2_addField 1 (.getfield 36) 3 4 := ⟨by decide +kernel, rfl⟩
theorem dX2_addField_4 : zD cX2_addField 4 (.bipush 6) 2 6 := ⟨by decide +kernel, rfl⟩
theorem dX2_addField_6 : zJ cX2_addField 6 (fun o => .if_icmp .lt o) 11 9 := ⟨5, by decide +kernel, by decide, rfl⟩
theorem dX2_addField_9 : zD cX2_addField 9 (.iconst 0) 1 10 := ⟨by decide +kernel, rfl⟩
theorem dX2_addField_10 : zD cX2_addField 10 (.ireturn) 1 11 := ⟨by decide +kernel, rfl⟩
theorem dX2_addField_11 : zD cX2_addField 11 (.aload_n 0) 1 12 := ⟨by decide +kernel, rfl⟩
theorem dX2_addField_12 : zD cX2_addField 12 (.getfield 9) 3 15 := ⟨by decide +kernel, rfl⟩
theorem dX2_addField_15 : zD cX2_addField 15 (.aload_n 0) 1 16 := ⟨by decide +kernel, rfl⟩
theorem dX2_addField_16 : zD cX2_addField 16 (.getfield 36) 3 19 := ⟨by decide +kernel, rfl⟩
theorem dX2_addField_19 : zD cX2_addField 19 (.iload_n 1) 1 20 := ⟨by decide +kernel, rfl⟩
theorem dX2_addField_20 : zD cX2_addField 20 (.iastore) 1 21 := ⟨by decide +kernel, rfl⟩
theorem dX2_addField_21 : zD cX2_addField 21 (.aload_n 0) 1 22 := ⟨by decide +kernel, rfl⟩
theorem dX2_addField_22 : zD cX2_addField 22 (.getfield 15) 3 25 := ⟨by decide +kernel, rfl⟩
theorem dX2_addField_25 : zD cX2_addField 25 (.aload_n 0) 1 26 := ⟨by decide +kernel, rfl⟩
theorem dX2_addField_26 : zD cX2_addField 26 (.getfield 36) 3 29 := ⟨by decide +kernel, rfl⟩
theorem dX2_addField_29 : zD cX2_addField 29 (.iload_n 2) 1 30 := ⟨by decide +kernel, rfl⟩
theorem dX2_addField_30 : zD cX2_addField 30 (.iastore) 1 31 := ⟨by decide +kernel, rfl⟩
theorem dX2_addField_31 : zD cX2_addField 31 (.aload_n 0) 1 32 := ⟨by decide +kernel, rfl⟩
theorem dX2_addField_32 : zD cX2_addField 32 (.getfield 18) 3 35 := ⟨by decide +kernel, rfl⟩
theorem dX2_addField_35 : zD cX2_addField 35 (.aload_n 0) 1 36 := ⟨by decide +kernel, rfl⟩
theorem dX2_addField_36 : zD cX2_addField 36 (.getfield 36) 3 39 := ⟨by decide +kernel, rfl⟩
theorem dX2_addField_39 : zD cX2_addField 39 (.iload_n 3) 1 40 := ⟨by decide +kernel, rfl⟩
theorem dX2_addField_40 : zD cX2_addField 40 (.iastore) 1 41 := ⟨by decide +kernel, rfl⟩
theorem dX2_addField_41 : zD cX2_addField 41 (.aload_n 0) 1 42 := ⟨by decide +kernel, rfl⟩
theorem dX2_addField_42 : zD cX2_addField 42 (.dup) 1 43 := ⟨by decide +kernel, rfl⟩
theorem dX2_addField_43 : zD cX2_addField 43 (.getfield 36) 3 46 := ⟨by decide +kernel, rfl⟩
theorem dX2_addField_46 : zD cX2_addField 46 (.iconst 1) 1 47 := ⟨by decide +kernel, rfl⟩
theorem dX2_addField_47 : zD cX2_addField 47 (.iadd) 1 48 := ⟨by decide +kernel, rfl⟩
theorem dX2_addField_48 : zD cX2_addField 48 (.putfield 36) 3 51 := ⟨by decide +kernel, rfl⟩
theorem dX2_addField_51 : zD cX2_addField 51 (.iconst 1) 1 52 := ⟨by decide +kernel, rfl⟩
theorem dX2_addField_52 : zD cX2_addField 52 (.ireturn) 1 53 := ⟨by decide +kernel, rfl⟩
theorem dX2_addBand_0 : zD cX2_addBand 0 (.aload_n 0) 1 1 := ⟨by decide +kernel, rfl⟩
theorem dX2_addBand_1 : zD cX2_addBand 1 (.getfield 40) 3 4 := ⟨by decide +kernel, rfl⟩
theorem dX2_addBand_4 : zD cX2_addBand 4 (.iconst 4) 1 5 := ⟨by decide +kernel, rfl⟩
theorem dX2_addBand_5 : zJ cX2_addBand 5 (fun o => .if_icmp .lt o) 10 8 := ⟨5, by decide +kernel, by decide, rfl⟩
theorem dX2_addBand_8 : zD cX2_addBand 8 (.iconst 0) 1 9 := ⟨by decide +kernel, rfl⟩
theorem dX2_addBand_9 : zD cX2_addBand 9 (.ireturn) 1 10 := ⟨by decide +kernel, rfl⟩
theorem dX2_addBand_10 : zD cX2_addBand 10 (.aload_n 0) 1 11 := ⟨by decide +kernel, rfl⟩
theorem dX2_addBand_11 : zD cX2_addBand 11 (.getfield 21) 3 14 := ⟨by decide +kernel, rfl⟩
theorem dX2_addBand_14 : zD cX2_addBand 14 (.aload_n 0) 1 15 := ⟨by decide +kernel, rfl⟩
theorem dX2_addBand_15 : zD cX2_addBand 15 (.getfield 40) 3 18 := ⟨by decide +kernel, rfl⟩
theorem dX2_addBand_18 : zD cX2_addBand 18 (.iload_n 1) 1 19 := ⟨by decide +kernel, rfl⟩
theorem dX2_addBand_19 : zD cX2_addBand 19 (.iastore) 1 20 := ⟨by decide +kernel, rfl⟩
theorem dX2_addBand_20 : zD cX2_addBand 20 (.aload_n 0) 1 21 := ⟨by decide +kernel, rfl⟩
theorem dX2_addBand_21 : zD cX2_addBand 21 (.getfield 24) 3 24 := ⟨by decide +kernel, rfl⟩
theorem dX2_addBand_24 : zD cX2_addBand 24 (.aload_n 0) 1 25 := ⟨by decide +kernel, rfl⟩
theorem dX2_addBand_25 : zD cX2_addBand 25 (.getfield 40) 3 28 := ⟨by decide +kernel, rfl⟩
theorem dX2_addBand_28 : zD cX2_addBand 28 (.iload_n 2) 1 29 := ⟨by decide +kernel, rfl⟩
theorem dX2_addBand_29 : zD cX2_addBand 29 (.iastore) 1 30 := ⟨by decide +kernel, rfl⟩
theorem dX2_addBand_30 : zD cX2_addBand 30 (.aload_n 0) 1 31 := ⟨by decide +kernel, rfl⟩
theorem dX2_addBand_31 : zD cX2_addBand 31 (.dup) 1 32 := ⟨by decide +kernel, rfl⟩
theorem dX2_addBand_32 : zD cX2_addBand 32 (.getfield 40) 3 35 := ⟨by decide +kernel, rfl⟩
theorem dX2_addBand_35 : zD cX2_addBand 35 (.iconst 1) 1 36 := ⟨by decide +kernel, rfl⟩
theorem dX2_addBand_36 : zD cX2_addBand 36 (.iadd) 1 37 := ⟨by decide +kernel, rfl⟩
theorem dX2_addBand_37 : zD cX2_addBand 37 (.putfield 40) 3 40 := ⟨by decide +kernel, rfl⟩
theorem dX2_addBand_40 : zD cX2_addBand 40 (.iconst 1) 1 41 := ⟨by decide +kernel, rfl⟩
theorem dX2_addBand_41 : zD cX2_addBand 41 (.ireturn) 1 42 := ⟨by decide +kernel, rfl⟩
theorem dX2_addSeen_0 : zD cX2_addSeen 0 (.aload_n 0) 1 1 := ⟨by decide +kernel, rfl⟩
theorem dX2_addSeen_1 : zD cX2_addSeen 1 (.getfield 43) 3 4 := ⟨by decide +kernel, rfl⟩
theorem dX2_addSeen_4 : zD cX2_addSeen 4 (.bipush 6) 2 6 := ⟨by decide +kernel, rfl⟩
theorem dX2_addSeen_6 : zJ cX2_addSeen 6 (fun o => .if_icmp .lt o) 11 9 := ⟨5, by decide +kernel, by decide, rfl⟩
theorem dX2_addSeen_9 : zD cX2_addSeen 9 (.iconst 0) 1 10 := ⟨by decide +kernel, rfl⟩
theorem dX2_addSeen_10 : zD cX2_addSeen 10 (.ireturn) 1 11 := ⟨by decide +kernel, rfl⟩
theorem dX2_addSeen_11 : zD cX2_addSeen 11 (.aload_n 0) 1 12 := ⟨by decide +kernel, rfl⟩
theorem dX2_addSeen_12 : zD cX2_addSeen 12 (.getfield 27) 3 15 := ⟨by decide +kernel, rfl⟩
theorem dX2_addSeen_15 : zD cX2_addSeen 15 (.aload_n 0) 1 16 := ⟨by decide +kernel, rfl⟩
theorem dX2_addSeen_16 : zD cX2_addSeen 16 (.getfield 43) 3 19 := ⟨by decide +kernel, rfl⟩
theorem dX2_addSeen_19 : zD cX2_addSeen 19 (.iload_n 1) 1 20 := ⟨by decide +kernel, rfl⟩
theorem dX2_addSeen_20 : zD cX2_addSeen 20 (.iastore) 1 21 := ⟨by decide +kernel, rfl⟩
theorem dX2_addSeen_21 : zD cX2_addSeen 21 (.aload_n 0) 1 22 := ⟨by decide +kernel, rfl⟩
theorem dX2_addSeen_22 : zD cX2_addSeen 22 (.getfield 30) 3 25 := ⟨by decide +kernel, rfl⟩
theorem dX2_addSeen_25 : zD cX2_addSeen 25 (.aload_n 0) 1 26 := ⟨by decide +kernel, rfl⟩
theorem dX2_addSeen_26 : zD cX2_addSeen 26 (.getfield 43) 3 29 := ⟨by decide +kernel, rfl⟩
theorem dX2_addSeen_29 : zD cX2_addSeen 29 (.iload_n 2) 1 30 := ⟨by decide +kernel, rfl⟩
theorem dX2_addSeen_30 : zD cX2_addSeen 30 (.iastore) 1 31 := ⟨by decide +kernel, rfl⟩
theorem dX2_addSeen_31 : zD cX2_addSeen 31 (.aload_n 0) 1 32 := ⟨by decide +kernel, rfl⟩
theorem dX2_addSeen_32 : zD cX2_addSeen 32 (.getfield 33) 3 35 := ⟨by decide +kernel, rfl⟩
theorem dX2_addSeen_35 : zD cX2_addSeen 35 (.aload_n 0) 1 36 := ⟨by decide +kernel, rfl⟩
theorem dX2_addSeen_36 : zD cX2_addSeen 36 (.getfield 43) 3 39 := ⟨by decide +kernel, rfl⟩
theorem dX2_addSeen_39 : zD cX2_addSeen 39 (.iload_n 3) 1 40 := ⟨by decide +kernel, rfl⟩
theorem dX2_addSeen_40 : zD cX2_addSeen 40 (.iastore) 1 41 := ⟨by decide +kernel, rfl⟩
theorem dX2_addSeen_41 : zD cX2_addSeen 41 (.aload_n 0) 1 42 := ⟨by decide +kernel, rfl⟩
theorem dX2_addSeen_42 : zD cX2_addSeen 42 (.dup) 1 43 := ⟨by decide +kernel, rfl⟩
theorem dX2_addSeen_43 : zD cX2_addSeen 43 (.getfield 43) 3 46 := ⟨by decide +kernel, rfl⟩
theorem dX2_addSeen_46 : zD cX2_addSeen 46 (.iconst 1) 1 47 := ⟨by decide +kernel, rfl⟩
theorem dX2_addSeen_47 : zD cX2_addSeen 47 (.iadd) 1 48 := ⟨by decide +kernel, rfl⟩
theorem dX2_addSeen_48 : zD cX2_addSeen 48 (.putfield 43) 3 51 := ⟨by decide +kernel, rfl⟩
theorem dX2_addSeen_51 : zD cX2_addSeen 51 (.iconst 1) 1 52 := ⟨by decide +kernel, rfl⟩
theorem dX2_addSeen_52 : zD cX2_addSeen 52 (.ireturn) 1 53 := ⟨by decide +kernel, rfl⟩
theorem dX2_heardAt_0 : zD cX2_heardAt 0 (.iconst 0) 1 1 := ⟨by decide +kernel, rfl⟩
theorem dX2_heardAt_1 : zD cX2_heardAt 1 (.istore_n 2) 1 2 := ⟨by decide +kernel, rfl⟩
theorem dX2_heardAt_2 : zD cX2_heardAt 2 (.iconst 0) 1 3 := ⟨by decide +kernel, rfl⟩
theorem dX2_heardAt_3 : zD cX2_heardAt 3 (.istore_n 3) 1 4 := ⟨by decide +kernel, rfl⟩
theorem dX2_heardAt_4 : zD cX2_heardAt 4 (.iload_n 3) 1 5 := ⟨by decide +kernel, rfl⟩
theorem dX2_heardAt_5 : zD cX2_heardAt 5 (.aload_n 0) 1 6 := ⟨by decide +kernel, rfl⟩
theorem dX2_heardAt_6 : zD cX2_heardAt 6 (.getfield 40) 3 9 := ⟨by decide +kernel, rfl⟩
theorem dX2_heardAt_9 : zJ cX2_heardAt 9 (fun o => .if_icmp .ge o) 37 12 := ⟨28, by decide +kernel, by decide, rfl⟩
theorem dX2_heardAt_12 : zD cX2_heardAt 12 (.aload_n 0) 1 13 := ⟨by decide +kernel, rfl⟩
theorem dX2_heardAt_13 : zD cX2_heardAt 13 (.getfield 21) 3 16 := ⟨by decide +kernel, rfl⟩
theorem dX2_heardAt_16 : zD cX2_heardAt 16 (.iload_n 3) 1 17 := ⟨by decide +kernel, rfl⟩
theorem dX2_heardAt_17 : zD cX2_heardAt 17 (.iaload) 1 18 := ⟨by decide +kernel, rfl⟩
theorem dX2_heardAt_18 : zD cX2_heardAt 18 (.iload_n 1) 1 19 := ⟨by decide +kernel, rfl⟩
theorem dX2_heardAt_19 : zJ cX2_heardAt 19 (fun o => .if_icmp .ne o) 31 22 := ⟨12, by decide +kernel, by decide, rfl⟩
theorem dX2_heardAt_22 : zD cX2_heardAt 22 (.iload_n 2) 1 23 := ⟨by decide +kernel, rfl⟩
theorem dX2_heardAt_23 : zD cX2_heardAt 23 (.aload_n 0) 1 24 := ⟨by decide +kernel, rfl⟩
theorem dX2_heardAt_24 : zD cX2_heardAt 24 (.getfield 24) 3 27 := ⟨by decide +kernel, rfl⟩
theorem dX2_heardAt_27 : zD cX2_heardAt 27 (.iload_n 3) 1 28 := ⟨by decide +kernel, rfl⟩
theorem dX2_heardAt_28 : zD cX2_heardAt 28 (.iaload) 1 29 := ⟨by decide +kernel, rfl⟩
theorem dX2_heardAt_29 : zD cX2_heardAt 29 (.iadd) 1 30 := ⟨by decide +kernel, rfl⟩
theorem dX2_heardAt_30 : zD cX2_heardAt 30 (.istore_n 2) 1 31 := ⟨by decide +kernel, rfl⟩
theorem dX2_heardAt_31 : zD cX2_heardAt 31 (.iinc 3 1) 3 34 := ⟨by decide +kernel, rfl⟩
theorem dX2_heardAt_34 : zG cX2_heardAt 34 4 := ⟨(-30), by decide +kernel, by decide⟩
theorem dX2_heardAt_37 : zD cX2_heardAt 37 (.iload_n 2) 1 38 := ⟨by decide +kernel, rfl⟩
theorem dX2_heardAt_38 : zD cX2_heardAt 38 (.ireturn) 1 39 := ⟨by decide +kernel, rfl⟩
theorem dX2_hearingFields_0 : zD cX2_hearingFields 0 (.iconst 0) 1 1 := ⟨by decide +kernel, rfl⟩
theorem dX2_hearingFields_1 : zD cX2_hearingFields 1 (.istore_n 1) 1 2 := ⟨by decide +kernel, rfl⟩
theorem dX2_hearingFields_2 : zD cX2_hearingFields 2 (.iconst 0) 1 3 := ⟨by decide +kernel, rfl⟩
theorem dX2_hearingFields_3 : zD cX2_hearingFields 3 (.istore_n 2) 1 4 := ⟨by decide +kernel, rfl⟩
theorem dX2_hearingFields_4 : zD cX2_hearingFields 4 (.iload_n 2) 1 5 := ⟨by decide +kernel, rfl⟩
theorem dX2_hearingFields_5 : zD cX2_hearingFields 5 (.aload_n 0) 1 6 := ⟨by decide +kernel, rfl⟩
theorem dX2_hearingFields_6 : zD cX2_hearingFields 6 (.getfield 40) 3 9 := ⟨by decide +kernel, rfl⟩
theorem dX2_hearingFields_9 : zJ cX2_hearingFields 9 (fun o => .if_icmp .ge o) 29 12 := ⟨20, by decide +kernel, by decide, rfl⟩
theorem dX2_hearingFields_12 : zD cX2_hearingFields 12 (.iload_n 1) 1 13 := ⟨by decide +kernel, rfl⟩
theorem dX2_hearingFields_13 : zD cX2_hearingFields 13 (.iconst 1) 1 14 := ⟨by decide +kernel, rfl⟩
theorem dX2_hearingFields_14 : zD cX2_hearingFields 14 (.aload_n 0) 1 15 := ⟨by decide +kernel, rfl⟩
theorem dX2_hearingFields_15 : zD cX2_hearingFields 15 (.getfield 21) 3 18 := ⟨by decide +kernel, rfl⟩
theorem dX2_hearingFields_18 : zD cX2_hearingFields 18 (.iload_n 2) 1 19 := ⟨by decide +kernel, rfl⟩
theorem dX2_hearingFields_19 : zD cX2_hearingFields 19 (.iaload) 1 20 := ⟨by decide +kernel, rfl⟩
theorem dX2_hearingFields_20 : zD cX2_hearingFields 20 (.ishl) 1 21 := ⟨by decide +kernel, rfl⟩
theorem dX2_hearingFields_21 : zD cX2_hearingFields 21 (.ior) 1 22 := ⟨by decide +kernel, rfl⟩
theorem dX2_hearingFields_22 : zD cX2_hearingFields 22 (.istore_n 1) 1 23 := ⟨by decide +kernel, rfl⟩
theorem dX2_hearingFields_23 : zD cX2_hearingFields 23 (.iinc 2 1) 3 26 := ⟨by decide +kernel, rfl⟩
theorem dX2_hearingFields_26 : zG cX2_hearingFields 26 4 := ⟨(-22), by decide +kernel, by decide⟩
theorem dX2_hearingFields_29 : zD cX2_hearingFields 29 (.iload_n 1) 1 30 := ⟨by decide +kernel, rfl⟩
theorem dX2_hearingFields_30 : zD cX2_hearingFields 30 (.ireturn) 1 31 := ⟨by decide +kernel, rfl⟩
theorem dX2_earlessFields_0 : zD cX2_earlessFields 0 (.iconst 0) 1 1 := ⟨by decide +kernel, rfl⟩
theorem dX2_earlessFields_1 : zD cX2_earlessFields 1 (.istore_n 1) 1 2 := ⟨by decide +kernel, rfl⟩
theorem dX2_earlessFields_2 : zD cX2_earlessFields 2 (.iconst 0) 1 3 := ⟨by decide +kernel, rfl⟩
theorem dX2_earlessFields_3 : zD cX2_earlessFields 3 (.istore_n 2) 1 4 := ⟨by decide +kernel, rfl⟩
theorem dX2_earlessFields_4 : zD cX2_earlessFields 4 (.iload_n 2) 1 5 := ⟨by decide +kernel, rfl⟩
theorem dX2_earlessFields_5 : zD cX2_earlessFields 5 (.aload_n 0) 1 6 := ⟨by decide +kernel, rfl⟩
theorem dX2_earlessFields_6 : zD cX2_earlessFields 6 (.getfield 36) 3 9 := ⟨by decide +kernel, rfl⟩
theorem dX2_earlessFields_9 : zJ cX2_earlessFields 9 (fun o => .if_icmp .ge o) 33 12 := ⟨24, by decide +kernel, by decide, rfl⟩
theorem dX2_earlessFields_12 : zD cX2_earlessFields 12 (.aload_n 0) 1 13 := ⟨by decide +kernel, rfl⟩
theorem dX2_earlessFields_13 : zD cX2_earlessFields 13 (.getfield 15) 3 16 := ⟨by decide +kernel, rfl⟩
theorem dX2_earlessFields_16 : zD cX2_earlessFields 16 (.iload_n 2) 1 17 := ⟨by decide +kernel, rfl⟩
theorem dX2_earlessFields_17 : zD cX2_earlessFields 17 (.iaload) 1 18 := ⟨by decide +kernel, rfl⟩
theorem dX2_earlessFields_18 : zJ cX2_earlessFields 18 (fun o => .ifCond .ne o) 27 21 := ⟨9, by decide +kernel, by decide, rfl⟩
theorem dX2_earlessFields_21 : zD cX2_earlessFields 21 (.iload_n 1) 1 22 := ⟨by decide +kernel, rfl⟩
theorem dX2_earlessFields_22 : zD cX2_earlessFields 22 (.iconst 1) 1 23 := ⟨by decide +kernel, rfl⟩
theorem dX2_earlessFields_23 : zD cX2_earlessFields 23 (.iload_n 2) 1 24 := ⟨by decide +kernel, rfl⟩
theorem dX2_earlessFields_24 : zD cX2_earlessFields 24 (.ishl) 1 25 := ⟨by decide +kernel, rfl⟩
theorem dX2_earlessFields_25 : zD cX2_earlessFields 25 (.ior) 1 26 := ⟨by decide +kernel, rfl⟩
theorem dX2_earlessFields_26 : zD cX2_earlessFields 26 (.istore_n 1) 1 27 := ⟨by decide +kernel, rfl⟩
theorem dX2_earlessFields_27 : zD cX2_earlessFields 27 (.iinc 2 1) 3 30 := ⟨by decide +kernel, rfl⟩
theorem dX2_earlessFields_30 : zG cX2_earlessFields 30 4 := ⟨(-26), by decide +kernel, by decide⟩
theorem dX2_earlessFields_33 : zD cX2_earlessFields 33 (.iload_n 1) 1 34 := ⟨by decide +kernel, rfl⟩
theorem dX2_earlessFields_34 : zD cX2_earlessFields 34 (.ireturn) 1 35 := ⟨by decide +kernel, rfl⟩
theorem dX2_allEars_0 : zD cX2_allEars 0 (.aload_n 0) 1 1 := ⟨by decide +kernel, rfl⟩
theorem dX2_allEars_1 : zD cX2_allEars 1 (.getfield 15) 3 4 := ⟨by decide +kernel, rfl⟩
theorem dX2_allEars_4 : zD cX2_allEars 4 (.aload_n 0) 1 5 := ⟨by decide +kernel, rfl⟩
theorem dX2_allEars_5 : zD cX2_allEars 5 (.getfield 36) 3 8 := ⟨by decide +kernel, rfl⟩
theorem dX2_allEars_8 : zD cX2_allEars 8 (.invokestatic 61) 3 11 := ⟨by decide +kernel, rfl⟩
theorem dX2_allEars_11 : zD cX2_allEars 11 (.ireturn) 1 12 := ⟨by decide +kernel, rfl⟩
theorem dX2_allBlight_0 : zD cX2_allBlight 0 (.aload_n 0) 1 1 := ⟨by decide +kernel, rfl⟩
theorem dX2_allBlight_1 : zD cX2_allBlight 1 (.getfield 18) 3 4 := ⟨by decide +kernel, rfl⟩
theorem dX2_allBlight_4 : zD cX2_allBlight 4 (.aload_n 0) 1 5 := ⟨by decide +kernel, rfl⟩
theorem dX2_allBlight_5 : zD cX2_allBlight 5 (.getfield 36) 3 8 := ⟨by decide +kernel, rfl⟩
theorem dX2_allBlight_8 : zD cX2_allBlight 8 (.invokestatic 61) 3 11 := ⟨by decide +kernel, rfl⟩
theorem dX2_allBlight_11 : zD cX2_allBlight 11 (.ireturn) 1 12 := ⟨by decide +kernel, rfl⟩
theorem dX2_allLoud_0 : zD cX2_allLoud 0 (.aload_n 0) 1 1 := ⟨by decide +kernel, rfl⟩
theorem dX2_allLoud_1 : zD cX2_allLoud 1 (.getfield 24) 3 4 := ⟨by decide +kernel, rfl⟩
theorem dX2_allLoud_4 : zD cX2_allLoud 4 (.aload_n 0) 1 5 := ⟨by decide +kernel, rfl⟩
theorem dX2_allLoud_5 : zD cX2_allLoud 5 (.getfield 40) 3 8 := ⟨by decide +kernel, rfl⟩
theorem dX2_allLoud_8 : zD cX2_allLoud 8 (.invokestatic 61) 3 11 := ⟨by decide +kernel, rfl⟩
theorem dX2_allLoud_11 : zD cX2_allLoud 11 (.ireturn) 1 12 := ⟨by decide +kernel, rfl⟩
theorem dX2_sumOf_0 : zD cX2_sumOf 0 (.iconst 0) 1 1 := ⟨by decide +kernel, rfl⟩
theorem dX2_sumOf_1 : zD cX2_sumOf 1 (.istore_n 2) 1 2 := ⟨by decide +kernel, rfl⟩
theorem dX2_sumOf_2 : zD cX2_sumOf 2 (.iconst 0) 1 3 := ⟨by decide +kernel, rfl⟩
theorem dX2_sumOf_3 : zD cX2_sumOf 3 (.istore_n 3) 1 4 := ⟨by decide +kernel, rfl⟩
theorem dX2_sumOf_4 : zD cX2_sumOf 4 (.iload_n 3) 1 5 := ⟨by decide +kernel, rfl⟩
theorem dX2_sumOf_5 : zD cX2_sumOf 5 (.iload_n 1) 1 6 := ⟨by decide +kernel, rfl⟩
theorem dX2_sumOf_6 : zJ cX2_sumOf 6 (fun o => .if_icmp .ge o) 27 9 := ⟨21, by decide +kernel, by decide, rfl⟩
theorem dX2_sumOf_9 : zD cX2_sumOf 9 (.iload_n 3) 1 10 := ⟨by decide +kernel, rfl⟩
theorem dX2_sumOf_10 : zD cX2_sumOf 10 (.aload_n 0) 1 11 := ⟨by decide +kernel, rfl⟩
theorem dX2_sumOf_11 : zD cX2_sumOf 11 (.arraylength) 1 12 := ⟨by decide +kernel, rfl⟩
theorem dX2_sumOf_12 : zJ cX2_sumOf 12 (fun o => .if_icmp .ge o) 27 15 := ⟨15, by decide +kernel, by decide, rfl⟩
theorem dX2_sumOf_15 : zD cX2_sumOf 15 (.iload_n 2) 1 16 := ⟨by decide +kernel, rfl⟩
theorem dX2_sumOf_16 : zD cX2_sumOf 16 (.aload_n 0) 1 17 := ⟨by decide +kernel, rfl⟩
theorem dX2_sumOf_17 : zD cX2_sumOf 17 (.iload_n 3) 1 18 := ⟨by decide +kernel, rfl⟩
theorem dX2_sumOf_18 : zD cX2_sumOf 18 (.iaload) 1 19 := ⟨by decide +kernel, rfl⟩
theorem dX2_sumOf_19 : zD cX2_sumOf 19 (.iadd) 1 20 := ⟨by decide +kernel, rfl⟩
theorem dX2_sumOf_20 : zD cX2_sumOf 20 (.istore_n 2) 1 21 := ⟨by decide +kernel, rfl⟩
theorem dX2_sumOf_21 : zD cX2_sumOf 21 (.iinc 3 1) 3 24 := ⟨by decide +kernel, rfl⟩
theorem dX2_sumOf_24 : zG cX2_sumOf 24 4 := ⟨(-20), by decide +kernel, by decide⟩
theorem dX2_sumOf_27 : zD cX2_sumOf 27 (.iload_n 2) 1 28 := ⟨by decide +kernel, rfl⟩
theorem dX2_sumOf_28 : zD cX2_sumOf 28 (.ireturn) 1 29 := ⟨by decide +kernel, rfl⟩
theorem dX2_passWeek_0 : zD cX2_passWeek 0 (.iconst 0) 1 1 := ⟨by decide +kernel, rfl⟩
theorem dX2_passWeek_1 : zD cX2_passWeek 1 (.istore_n 1) 1 2 := ⟨by decide +kernel, rfl⟩
theorem dX2_passWeek_2 : zD cX2_passWeek 2 (.iconst 0) 1 3 := ⟨by decide +kernel, rfl⟩
theorem dX2_passWeek_3 : zD cX2_passWeek 3 (.istore_n 2) 1 4 := ⟨by decide +kernel, rfl⟩
theorem dX2_passWeek_4 : zD cX2_passWeek 4 (.iload_n 2) 1 5 := ⟨by decide +kernel, rfl⟩
theorem dX2_passWeek_5 : zD cX2_passWeek 5 (.aload_n 0) 1 6 := ⟨by decide +kernel, rfl⟩
theorem dX2_passWeek_6 : zD cX2_passWeek 6 (.getfield 36) 3 9 := ⟨by decide +kernel, rfl⟩
theorem dX2_passWeek_9 : zJ cX2_passWeek 9 (fun o => .if_icmp .ge o) 135 12 := ⟨126, by decide +kernel, by decide, rfl⟩
theorem dX2_passWeek_12 : zD cX2_passWeek 12 (.aload_n 0) 1 13 := ⟨by decide +kernel, rfl⟩
theorem dX2_passWeek_13 : zD cX2_passWeek 13 (.iload_n 2) 1 14 := ⟨by decide +kernel, rfl⟩
theorem dX2_passWeek_14 : zD cX2_passWeek 14 (.invokevirtual 65) 3 17 := ⟨by decide +kernel, rfl⟩
theorem dX2_passWeek_17 : zD cX2_passWeek 17 (.istore_n 3) 1 18 := ⟨by decide +kernel, rfl⟩
theorem dX2_passWeek_18 : zD cX2_passWeek 18 (.aload_n 0) 1 19 := ⟨by decide +kernel, rfl⟩
theorem dX2_passWeek_19 : zD cX2_passWeek 19 (.getfield 15) 3 22 := ⟨by decide +kernel, rfl⟩
theorem dX2_passWeek_22 : zD cX2_passWeek 22 (.iload_n 2) 1 23 := ⟨by decide +kernel, rfl⟩
theorem dX2_passWeek_23 : zD cX2_passWeek 23 (.aload_n 0) 1 24 := ⟨by decide +kernel, rfl⟩
theorem dX2_passWeek_24 : zD cX2_passWeek 24 (.getfield 9) 3 27 := ⟨by decide +kernel, rfl⟩
theorem dX2_passWeek_27 : zD cX2_passWeek 27 (.iload_n 2) 1 28 := ⟨by decide +kernel, rfl⟩
theorem dX2_passWeek_28 : zD cX2_passWeek 28 (.iaload) 1 29 := ⟨by decide +kernel, rfl⟩
theorem dX2_passWeek_29 : zD cX2_passWeek 29 (.aload_n 0) 1 30 := ⟨by decide +kernel, rfl⟩
theorem dX2_passWeek_30 : zD cX2_passWeek 30 (.getfield 15) 3 33 := ⟨by decide +kernel, rfl⟩
theorem dX2_passWeek_33 : zD cX2_passWeek 33 (.iload_n 2) 1 34 := ⟨by decide +kernel, rfl⟩
theorem dX2_passWeek_34 : zD cX2_passWeek 34 (.iaload) 1 35 := ⟨by decide +kernel, rfl⟩
theorem dX2_passWeek_35 : zD cX2_passWeek 35 (.aload_n 0) 1 36 := ⟨by decide +kernel, rfl⟩
theorem dX2_passWeek_36 : zD cX2_passWeek 36 (.getfield 18) 3 39 := ⟨by decide +kernel, rfl⟩
theorem dX2_passWeek_39 : zD cX2_passWeek 39 (.iload_n 2) 1 40 := ⟨by decide +kernel, rfl⟩
theorem dX2_passWeek_40 : zD cX2_passWeek 40 (.iaload) 1 41 := ⟨by decide +kernel, rfl⟩
theorem dX2_passWeek_41 : zD cX2_passWeek 41 (.iload_n 3) 1 42 := ⟨by decide +kernel, rfl⟩
theorem dX2_passWeek_42 : zD cX2_passWeek 42 (.invokestatic 69) 3 45 := ⟨by decide +kernel, rfl⟩
theorem dX2_passWeek_45 : zD cX2_passWeek 45 (.iastore) 1 46 := ⟨by decide +kernel, rfl⟩
theorem dX2_passWeek_46 : zD cX2_passWeek 46 (.aload_n 0) 1 47 := ⟨by decide +kernel, rfl⟩
theorem dX2_passWeek_47 : zD cX2_passWeek 47 (.getfield 18) 3 50 := ⟨by decide +kernel, rfl⟩
theorem dX2_passWeek_50 : zD cX2_passWeek 50 (.iload_n 2) 1 51 := ⟨by decide +kernel, rfl⟩
theorem dX2_passWeek_51 : zD cX2_passWeek 51 (.aload_n 0) 1 52 := ⟨by decide +kernel, rfl⟩
theorem dX2_passWeek_52 : zD cX2_passWeek 52 (.getfield 9) 3 55 := ⟨by decide +kernel, rfl⟩
theorem dX2_passWeek_55 : zD cX2_passWeek 55 (.iload_n 2) 1 56 := ⟨by decide +kernel, rfl⟩
theorem dX2_passWeek_56 : zD cX2_passWeek 56 (.iaload) 1 57 := ⟨by decide +kernel, rfl⟩
theorem dX2_passWeek_57 : zD cX2_passWeek 57 (.aload_n 0) 1 58 := ⟨by decide +kernel, rfl⟩
theorem dX2_passWeek_58 : zD cX2_passWeek 58 (.getfield 18) 3 61 := ⟨by decide +kernel, rfl⟩
theorem dX2_passWeek_61 : zD cX2_passWeek 61 (.iload_n 2) 1 62 := ⟨by decide +kernel, rfl⟩
theorem dX2_passWeek_62 : zD cX2_passWeek 62 (.iaload) 1 63 := ⟨by decide +kernel, rfl⟩
theorem dX2_passWeek_63 : zD cX2_passWeek 63 (.iload_n 3) 1 64 := ⟨by decide +kernel, rfl⟩
theorem dX2_passWeek_64 : zD cX2_passWeek 64 (.invokestatic 73) 3 67 := ⟨by decide +kernel, rfl⟩
theorem dX2_passWeek_67 : zD cX2_passWeek 67 (.iastore) 1 68 := ⟨by decide +kernel, rfl⟩
theorem dX2_passWeek_68 : zD cX2_passWeek 68 (.iload_n 3) 1 69 := ⟨by decide +kernel, rfl⟩
theorem dX2_passWeek_69 : zJ cX2_passWeek 69 (fun o => .ifCond .ne o) 99 72 := ⟨30, by decide +kernel, by decide, rfl⟩
theorem dX2_passWeek_72 : zD cX2_passWeek 72 (.aload_n 0) 1 73 := ⟨by decide +kernel, rfl⟩
theorem dX2_passWeek_73 : zD cX2_passWeek 73 (.sipush 999) 3 76 := ⟨by decide +kernel, rfl⟩
theorem dX2_passWeek_76 : zD cX2_passWeek 76 (.aload_n 0) 1 77 := ⟨by decide +kernel, rfl⟩
theorem dX2_passWeek_77 : zD cX2_passWeek 77 (.getfield 49) 3 80 := ⟨by decide +kernel, rfl⟩
theorem dX2_passWeek_80 : zD cX2_passWeek 80 (.aload_n 0) 1 81 := ⟨by decide +kernel, rfl⟩
theorem dX2_passWeek_81 : zD cX2_passWeek 81 (.getfield 15) 3 84 := ⟨by decide +kernel, rfl⟩
theorem dX2_passWeek_84 : zD cX2_passWeek 84 (.iload_n 2) 1 85 := ⟨by decide +kernel, rfl⟩
theorem dX2_passWeek_85 : zD cX2_passWeek 85 (.iaload) 1 86 := ⟨by decide +kernel, rfl⟩
theorem dX2_passWeek_86 : zD cX2_passWeek 86 (.bipush 10) 2 88 := ⟨by decide +kernel, rfl⟩
theorem dX2_passWeek_88 : zD cX2_passWeek 88 (.idiv) 1 89 := ⟨by decide +kernel, rfl⟩
theorem dX2_passWeek_89 : zD cX2_passWeek 89 (.iadd) 1 90 := ⟨by decide +kernel, rfl⟩
theorem dX2_passWeek_90 : zD cX2_passWeek 90 (.invokestatic 77) 3 93 := ⟨by decide +kernel, rfl⟩
theorem dX2_passWeek_93 : zD cX2_passWeek 93 (.putfield 49) 3 96 := ⟨by decide +kernel, rfl⟩
theorem dX2_passWeek_96 : zG cX2_passWeek 96 129 := ⟨33, by decide +kernel, by decide⟩
theorem dX2_passWeek_99 : zD cX2_passWeek 99 (.aload_n 0) 1 100 := ⟨by decide +kernel, rfl⟩
theorem dX2_passWeek_100 : zD cX2_passWeek 100 (.getfield 15) 3 103 := ⟨by decide +kernel, rfl⟩
theorem dX2_passWeek_103 : zD cX2_passWeek 103 (.iload_n 2) 1 104 := ⟨by decide +kernel, rfl⟩
theorem dX2_passWeek_104 : zD cX2_passWeek 104 (.iaload) 1 105 := ⟨by decide +kernel, rfl⟩
theorem dX2_passWeek_105 : zD cX2_passWeek 105 (.aload_n 0) 1 106 := ⟨by decide +kernel, rfl⟩
theorem dX2_passWeek_106 : zD cX2_passWeek 106 (.getfield 46) 3 109 := ⟨by decide +kernel, rfl⟩
theorem dX2_passWeek_109 : zJ cX2_passWeek 109 (fun o => .if_icmp .lt o) 129 112 := ⟨20, by decide +kernel, by decide, rfl⟩
theorem dX2_passWeek_112 : zD cX2_passWeek 112 (.iinc 1 1) 3 115 := ⟨by decide +kernel, rfl⟩
theorem dX2_passWeek_115 : zD cX2_passWeek 115 (.aload_n 0) 1 116 := ⟨by decide +kernel, rfl⟩
theorem dX2_passWeek_116 : zD cX2_passWeek 116 (.iconst 0) 1 117 := ⟨by decide +kernel, rfl⟩
theorem dX2_passWeek_117 : zD cX2_passWeek 117 (.aload_n 0) 1 118 := ⟨by decide +kernel, rfl⟩
theorem dX2_passWeek_118 : zD cX2_passWeek 118 (.getfield 49) 3 121 := ⟨by decide +kernel, rfl⟩
theorem dX2_passWeek_121 : zD cX2_passWeek 121 (.iconst 1) 1 122 := ⟨by decide +kernel, rfl⟩
theorem dX2_passWeek_122 : zD cX2_passWeek 122 (.isub) 1 123 := ⟨by decide +kernel, rfl⟩
theorem dX2_passWeek_123 : zD cX2_passWeek 123 (.invokestatic 83) 3 126 := ⟨by decide +kernel, rfl⟩
theorem dX2_passWeek_126 : zD cX2_passWeek 126 (.putfield 49) 3 129 := ⟨by decide +kernel, rfl⟩
theorem dX2_passWeek_129 : zD cX2_passWeek 129 (.iinc 2 1) 3 132 := ⟨by decide +kernel, rfl⟩
theorem dX2_passWeek_132 : zG cX2_passWeek 132 4 := ⟨(-128), by decide +kernel, by decide⟩
theorem dX2_passWeek_135 : zD cX2_passWeek 135 (.aload_n 0) 1 136 := ⟨by decide +kernel, rfl⟩
theorem dX2_passWeek_136 : zD cX2_passWeek 136 (.dup) 1 137 := ⟨by decide +kernel, rfl⟩
theorem dX2_passWeek_137 : zD cX2_passWeek 137 (.getfield 52) 3 140 := ⟨by decide +kernel, rfl⟩
theorem dX2_passWeek_140 : zD cX2_passWeek 140 (.iconst 1) 1 141 := ⟨by decide +kernel, rfl⟩
theorem dX2_passWeek_141 : zD cX2_passWeek 141 (.iadd) 1 142 := ⟨by decide +kernel, rfl⟩
theorem dX2_passWeek_142 : zD cX2_passWeek 142 (.putfield 52) 3 145 := ⟨by decide +kernel, rfl⟩
theorem dX2_passWeek_145 : zD cX2_passWeek 145 (.iload_n 1) 1 146 := ⟨by decide +kernel, rfl⟩
theorem dX2_passWeek_146 : zD cX2_passWeek 146 (.ireturn) 1 147 := ⟨by decide +kernel, rfl⟩
theorem dX2_passWeeks_0 : zD cX2_passWeeks 0 (.iconst 0) 1 1 := ⟨by decide +kernel, rfl⟩
theorem dX2_passWeeks_1 : zD cX2_passWeeks 1 (.istore_n 2) 1 2 := ⟨by decide +kernel, rfl⟩
theorem dX2_passWeeks_2 : zD cX2_passWeeks 2 (.iconst 0) 1 3 := ⟨by decide +kernel, rfl⟩
theorem dX2_passWeeks_3 : zD cX2_passWeeks 3 (.istore_n 3) 1 4 := ⟨by decide +kernel, rfl⟩
theorem dX2_passWeeks_4 : zD cX2_passWeeks 4 (.iload_n 3) 1 5 := ⟨by decide +kernel, rfl⟩
theorem dX2_passWeeks_5 : zD cX2_passWeeks 5 (.iload_n 1) 1 6 := ⟨by decide +kernel, rfl⟩
theorem dX2_passWeeks_6 : zJ cX2_passWeeks 6 (fun o => .if_icmp .ge o) 22 9 := ⟨16, by decide +kernel, by decide, rfl⟩
theorem dX2_passWeeks_9 : zD cX2_passWeeks 9 (.iload_n 2) 1 10 := ⟨by decide +kernel, rfl⟩
theorem dX2_passWeeks_10 : zD cX2_passWeeks 10 (.aload_n 0) 1 11 := ⟨by decide +kernel, rfl⟩
theorem dX2_passWeeks_11 : zD cX2_passWeeks 11 (.invokevirtual 86) 3 14 := ⟨by decide +kernel, rfl⟩
theorem dX2_passWeeks_14 : zD cX2_passWeeks 14 (.iadd) 1 15 := ⟨by decide +kernel, rfl⟩
theorem dX2_passWeeks_15 : zD cX2_passWeeks 15 (.istore_n 2) 1 16 := ⟨by decide +kernel, rfl⟩
theorem dX2_passWeeks_16 : zD cX2_passWeeks 16 (.iinc 3 1) 3 19 := ⟨by decide +kernel, rfl⟩
theorem dX2_passWeeks_19 : zG cX2_passWeeks 19 4 := ⟨(-15), by decide +kernel, by decide⟩
theorem dX2_passWeeks_22 : zD cX2_passWeeks 22 (.iload_n 2) 1 23 := ⟨by decide +kernel, rfl⟩
theorem dX2_passWeeks_23 : zD cX2_passWeeks 23 (.ireturn) 1 24 := ⟨by decide +kernel, rfl⟩
theorem dX2_earsIf_0 : zD cX2_earsIf 0 (.aload_n 0) 1 1 := ⟨by decide +kernel, rfl⟩
theorem dX2_earsIf_1 : zD cX2_earsIf 1 (.getfield 9) 3 4 := ⟨by decide +kernel, rfl⟩
theorem dX2_earsIf_4 : zD cX2_earsIf 4 (.iload_n 1) 1 5 := ⟨by decide +kernel, rfl⟩
theorem dX2_earsIf_5 : zD cX2_earsIf 5 (.iaload) 1 6 := ⟨by decide +kernel, rfl⟩
theorem dX2_earsIf_6 : zD cX2_earsIf 6 (.aload_n 0) 1 7 := ⟨by decide +kernel, rfl⟩
theorem dX2_earsIf_7 : zD cX2_earsIf 7 (.getfield 15) 3 10 := ⟨by decide +kernel, rfl⟩
theorem dX2_earsIf_10 : zD cX2_earsIf 10 (.iload_n 1) 1 11 := ⟨by decide +kernel, rfl⟩
theorem dX2_earsIf_11 : zD cX2_earsIf 11 (.iaload) 1 12 := ⟨by decide +kernel, rfl⟩
theorem dX2_earsIf_12 : zD cX2_earsIf 12 (.aload_n 0) 1 13 := ⟨by decide +kernel, rfl⟩
theorem dX2_earsIf_13 : zD cX2_earsIf 13 (.getfield 18) 3 16 := ⟨by decide +kernel, rfl⟩
theorem dX2_earsIf_16 : zD cX2_earsIf 16 (.iload_n 1) 1 17 := ⟨by decide +kernel, rfl⟩
theorem dX2_earsIf_17 : zD cX2_earsIf 17 (.iaload) 1 18 := ⟨by decide +kernel, rfl⟩
theorem dX2_earsIf_18 : zD cX2_earsIf 18 (.iload_n 2) 1 19 := ⟨by decide +kernel, rfl⟩
theorem dX2_earsIf_19 : zD cX2_earsIf 19 (.iload_n 3) 1 20 := ⟨by decide +kernel, rfl⟩
theorem dX2_earsIf_20 : zD cX2_earsIf 20 (.invokestatic 90) 3 23 := ⟨by decide +kernel, rfl⟩
theorem dX2_earsIf_23 : zD cX2_earsIf 23 (.ireturn) 1 24 := ⟨by decide +kernel, rfl⟩
theorem dX2_gainBy_0 : zD cX2_gainBy 0 (.iload_n 2) 1 1 := ⟨by decide +kernel, rfl⟩
theorem dX2_gainBy_1 : zJ cX2_gainBy 1 (fun o => .ifCond .ne o) 6 4 := ⟨5, by decide +kernel, by decide, rfl⟩
theorem dX2_gainBy_4 : zD cX2_gainBy 4 (.iconst 0) 1 5 := ⟨by decide +kernel, rfl⟩
theorem dX2_gainBy_5 : zD cX2_gainBy 5 (.ireturn) 1 6 := ⟨by decide +kernel, rfl⟩
theorem dX2_gainBy_6 : zD cX2_gainBy 6 (.aload_n 0) 1 7 := ⟨by decide +kernel, rfl⟩
theorem dX2_gainBy_7 : zD cX2_gainBy 7 (.iload_n 1) 1 8 := ⟨by decide +kernel, rfl⟩
theorem dX2_gainBy_8 : zD cX2_gainBy 8 (.invokevirtual 65) 3 11 := ⟨by decide +kernel, rfl⟩
theorem dX2_gainBy_11 : zD cX2_gainBy 11 (.istore 4) 2 13 := ⟨by decide +kernel, rfl⟩
theorem dX2_gainBy_13 : zD cX2_gainBy 13 (.aload_n 0) 1 14 := ⟨by decide +kernel, rfl⟩
theorem dX2_gainBy_14 : zD cX2_gainBy 14 (.iload_n 1) 1 15 := ⟨by decide +kernel, rfl⟩
theorem dX2_gainBy_15 : zD cX2_gainBy 15 (.iload 4) 2 17 := ⟨by decide +kernel, rfl⟩
theorem dX2_gainBy_17 : zD cX2_gainBy 17 (.iload_n 2) 1 18 := ⟨by decide +kernel, rfl⟩
theorem dX2_gainBy_18 : zD cX2_gainBy 18 (.iadd) 1 19 := ⟨by decide +kernel, rfl⟩
theorem dX2_gainBy_19 : zD cX2_gainBy 19 (.iload_n 3) 1 20 := ⟨by decide +kernel, rfl⟩
theorem dX2_gainBy_20 : zD cX2_gainBy 20 (.invokevirtual 94) 3 23 := ⟨by decide +kernel, rfl⟩
theorem dX2_gainBy_23 : zD cX2_gainBy 23 (.aload_n 0) 1 24 := ⟨by decide +kernel, rfl⟩
theorem dX2_gainBy_24 : zD cX2_gainBy 24 (.iload_n 1) 1 25 := ⟨by decide +kernel, rfl⟩
theorem dX2_gainBy_25 : zD cX2_gainBy 25 (.iload 4) 2 27 := ⟨by decide +kernel, rfl⟩
theorem dX2_gainBy_27 : zD cX2_gainBy 27 (.iload_n 3) 1 28 := ⟨by decide +kernel, rfl⟩
theorem dX2_gainBy_28 : zD cX2_gainBy 28 (.invokevirtual 94) 3 31 := ⟨by decide +kernel, rfl⟩
theorem dX2_gainBy_31 : zD cX2_gainBy 31 (.isub) 1 32 := ⟨by decide +kernel, rfl⟩
theorem dX2_gainBy_32 : zD cX2_gainBy 32 (.ireturn) 1 33 := ⟨by decide +kernel, rfl⟩
theorem dX2_allEarsBehind_0 : zD cX2_allEarsBehind 0 (.iconst 0) 1 1 := ⟨by decide +kernel, rfl⟩
theorem dX2_allEarsBehind_1 : zD cX2_allEarsBehind 1 (.istore_n 2) 1 2 := ⟨by decide +kernel, rfl⟩
theorem dX2_allEarsBehind_2 : zD cX2_allEarsBehind 2 (.iconst 0) 1 3 := ⟨by decide +kernel, rfl⟩
theorem dX2_allEarsBehind_3 : zD cX2_allEarsBehind 3 (.istore_n 3) 1 4 := ⟨by decide +kernel, rfl⟩
theorem dX2_allEarsBehind_4 : zD cX2_allEarsBehind 4 (.iload_n 3) 1 5 := ⟨by decide +kernel, rfl⟩
theorem dX2_allEarsBehind_5 : zD cX2_allEarsBehind 5 (.aload_n 0) 1 6 := ⟨by decide +kernel, rfl⟩
theorem dX2_allEarsBehind_6 : zD cX2_allEarsBehind 6 (.getfield 36) 3 9 := ⟨by decide +kernel, rfl⟩
theorem dX2_allEarsBehind_9 : zJ cX2_allEarsBehind 9 (fun o => .if_icmp .ge o) 32 12 := ⟨23, by decide +kernel, by decide, rfl⟩
theorem dX2_allEarsBehind_12 : zD cX2_allEarsBehind 12 (.iload_n 2) 1 13 := ⟨by decide +kernel, rfl⟩
theorem dX2_allEarsBehind_13 : zD cX2_allEarsBehind 13 (.aload_n 0) 1 14 := ⟨by decide +kernel, rfl⟩
theorem dX2_allEarsBehind_14 : zD cX2_allEarsBehind 14 (.iload_n 3) 1 15 := ⟨by decide +kernel, rfl⟩
theorem dX2_allEarsBehind_15 : zD cX2_allEarsBehind 15 (.aload_n 0) 1 16 := ⟨by decide +kernel, rfl⟩
theorem dX2_allEarsBehind_16 : zD cX2_allEarsBehind 16 (.iload_n 3) 1 17 := ⟨by decide +kernel, rfl⟩
theorem dX2_allEarsBehind_17 : zD cX2_allEarsBehind 17 (.invokevirtual 65) 3 20 := ⟨by decide +kernel, rfl⟩
theorem dX2_allEarsBehind_20 : zD cX2_allEarsBehind 20 (.iload_n 1) 1 21 := ⟨by decide +kernel, rfl⟩
theorem dX2_allEarsBehind_21 : zD cX2_allEarsBehind 21 (.invokevirtual 94) 3 24 := ⟨by decide +kernel, rfl⟩
theorem dX2_allEarsBehind_24 : zD cX2_allEarsBehind 24 (.iadd) 1 25 := ⟨by decide +kernel, rfl⟩
theorem dX2_allEarsBehind_25 : zD cX2_allEarsBehind 25 (.istore_n 2) 1 26 := ⟨by decide +kernel, rfl⟩
theorem dX2_allEarsBehind_26 : zD cX2_allEarsBehind 26 (.iinc 3 1) 3 29 := ⟨by decide +kernel, rfl⟩
theorem dX2_allEarsBehind_29 : zG cX2_allEarsBehind 29 4 := ⟨(-25), by decide +kernel, by decide⟩
theorem dX2_allEarsBehind_32 : zD cX2_allEarsBehind 32 (.iload_n 2) 1 33 := ⟨by decide +kernel, rfl⟩
theorem dX2_allEarsBehind_33 : zD cX2_allEarsBehind 33 (.ireturn) 1 34 := ⟨by decide +kernel, rfl⟩
theorem dX2_isAsSeen_0 : zD cX2_isAsSeen 0 (.iconst 0) 1 1 := ⟨by decide +kernel, rfl⟩
theorem dX2_isAsSeen_1 : zD cX2_isAsSeen 1 (.istore 4) 2 3 := ⟨by decide +kernel, rfl⟩
theorem dX2_isAsSeen_3 : zD cX2_isAsSeen 3 (.iload 4) 2 5 := ⟨by decide +kernel, rfl⟩
theorem dX2_isAsSeen_5 : zD cX2_isAsSeen 5 (.aload_n 0) 1 6 := ⟨by decide +kernel, rfl⟩
theorem dX2_isAsSeen_6 : zD cX2_isAsSeen 6 (.getfield 43) 3 9 := ⟨by decide +kernel, rfl⟩
theorem dX2_isAsSeen_9 : zJ cX2_isAsSeen 9 (fun o => .if_icmp .ge o) 95 12 := ⟨86, by decide +kernel, by decide, rfl⟩
theorem dX2_isAsSeen_12 : zD cX2_isAsSeen 12 (.aload_n 0) 1 13 := ⟨by decide +kernel, rfl⟩
theorem dX2_isAsSeen_13 : zD cX2_isAsSeen 13 (.getfield 30) 3 16 := ⟨by decide +kernel, rfl⟩
theorem dX2_isAsSeen_16 : zD cX2_isAsSeen 16 (.iload 4) 2 18 := ⟨by decide +kernel, rfl⟩
theorem dX2_isAsSeen_18 : zD cX2_isAsSeen 18 (.iaload) 1 19 := ⟨by decide +kernel, rfl⟩
theorem dX2_isAsSeen_19 : zD cX2_isAsSeen 19 (.istore 5) 2 21 := ⟨by decide +kernel, rfl⟩
theorem dX2_isAsSeen_21 : zD cX2_isAsSeen 21 (.aload_n 0) 1 22 := ⟨by decide +kernel, rfl⟩
theorem dX2_isAsSeen_22 : zD cX2_isAsSeen 22 (.iload 5) 2 24 := ⟨by decide +kernel, rfl⟩
theorem dX2_isAsSeen_24 : zD cX2_isAsSeen 24 (.invokevirtual 65) 3 27 := ⟨by decide +kernel, rfl⟩
theorem dX2_isAsSeen_27 : zD cX2_isAsSeen 27 (.istore 6) 2 29 := ⟨by decide +kernel, rfl⟩
theorem dX2_isAsSeen_29 : zD cX2_isAsSeen 29 (.aload_n 0) 1 30 := ⟨by decide +kernel, rfl⟩
theorem dX2_isAsSeen_30 : zD cX2_isAsSeen 30 (.getfield 27) 3 33 := ⟨by decide +kernel, rfl⟩
theorem dX2_isAsSeen_33 : zD cX2_isAsSeen 33 (.iload 4) 2 35 := ⟨by decide +kernel, rfl⟩
theorem dX2_isAsSeen_35 : zD cX2_isAsSeen 35 (.iaload) 1 36 := ⟨by decide +kernel, rfl⟩
theorem dX2_isAsSeen_36 : zD cX2_isAsSeen 36 (.istore 7) 2 38 := ⟨by decide +kernel, rfl⟩
theorem dX2_isAsSeen_38 : zD cX2_isAsSeen 38 (.iload 5) 2 40 := ⟨by decide +kernel, rfl⟩
theorem dX2_isAsSeen_40 : zD cX2_isAsSeen 40 (.iload_n 1) 1 41 := ⟨by decide +kernel, rfl⟩
theorem dX2_isAsSeen_41 : zJ cX2_isAsSeen 41 (fun o => .if_icmp .ne o) 63 44 := ⟨22, by decide +kernel, by decide, rfl⟩
theorem dX2_isAsSeen_44 : zD cX2_isAsSeen 44 (.iload_n 2) 1 45 := ⟨by decide +kernel, rfl⟩
theorem dX2_isAsSeen_45 : zD cX2_isAsSeen 45 (.aload_n 0) 1 46 := ⟨by decide +kernel, rfl⟩
theorem dX2_isAsSeen_46 : zD cX2_isAsSeen 46 (.getfield 15) 3 49 := ⟨by decide +kernel, rfl⟩
theorem dX2_isAsSeen_49 : zD cX2_isAsSeen 49 (.iload 5) 2 51 := ⟨by decide +kernel, rfl⟩
theorem dX2_isAsSeen_51 : zD cX2_isAsSeen 51 (.iaload) 1 52 := ⟨by decide +kernel, rfl⟩
theorem dX2_isAsSeen_52 : zD cX2_isAsSeen 52 (.iload_n 3) 1 53 := ⟨by decide +kernel, rfl⟩
theorem dX2_isAsSeen_53 : zD cX2_isAsSeen 53 (.iload 6) 2 55 := ⟨by decide +kernel, rfl⟩
theorem dX2_isAsSeen_55 : zD cX2_isAsSeen 55 (.iload 7) 2 57 := ⟨by decide +kernel, rfl⟩
theorem dX2_isAsSeen_57 : zD cX2_isAsSeen 57 (.invokestatic 90) 3 60 := ⟨by decide +kernel, rfl⟩
theorem dX2_isAsSeen_60 : zG cX2_isAsSeen 60 73 := ⟨13, by decide +kernel, by decide⟩
theorem dX2_isAsSeen_63 : zD cX2_isAsSeen 63 (.aload_n 0) 1 64 := ⟨by decide +kernel, rfl⟩
theorem dX2_isAsSeen_64 : zD cX2_isAsSeen 64 (.iload 5) 2 66 := ⟨by decide +kernel, rfl⟩
theorem dX2_isAsSeen_66 : zD cX2_isAsSeen 66 (.iload 6) 2 68 := ⟨by decide +kernel, rfl⟩
theorem dX2_isAsSeen_68 : zD cX2_isAsSeen 68 (.iload 7) 2 70 := ⟨by decide +kernel, rfl⟩
theorem dX2_isAsSeen_70 : zD cX2_isAsSeen 70 (.invokevirtual 94) 3 73 := ⟨by decide +kernel, rfl⟩
theorem dX2_isAsSeen_73 : zD cX2_isAsSeen 73 (.istore 8) 2 75 := ⟨by decide +kernel, rfl⟩
theorem dX2_isAsSeen_75 : zD cX2_isAsSeen 75 (.iload 8) 2 77 := ⟨by decide +kernel, rfl⟩
theorem dX2_isAsSeen_77 : zD cX2_isAsSeen 77 (.aload_n 0) 1 78 := ⟨by decide +kernel, rfl⟩
theorem dX2_isAsSeen_78 : zD cX2_isAsSeen 78 (.getfield 33) 3 81 := ⟨by decide +kernel, rfl⟩
theorem dX2_isAsSeen_81 : zD cX2_isAsSeen 81 (.iload 4) 2 83 := ⟨by decide +kernel, rfl⟩
theorem dX2_isAsSeen_83 : zD cX2_isAsSeen 83 (.iaload) 1 84 := ⟨by decide +kernel, rfl⟩
theorem dX2_isAsSeen_84 : zJ cX2_isAsSeen 84 (fun o => .if_icmp .eq o) 89 87 := ⟨5, by decide +kernel, by decide, rfl⟩
theorem dX2_isAsSeen_87 : zD cX2_isAsSeen 87 (.iconst 0) 1 88 := ⟨by decide +kernel, rfl⟩
theorem dX2_isAsSeen_88 : zD cX2_isAsSeen 88 (.ireturn) 1 89 := ⟨by decide +kernel, rfl⟩
theorem dX2_isAsSeen_89 : zD cX2_isAsSeen 89 (.iinc 4 1) 3 92 := ⟨by decide +kernel, rfl⟩
theorem dX2_isAsSeen_92 : zG cX2_isAsSeen 92 3 := ⟨(-89), by decide +kernel, by decide⟩
theorem dX2_isAsSeen_95 : zD cX2_isAsSeen 95 (.iconst 1) 1 96 := ⟨by decide +kernel, rfl⟩
theorem dX2_isAsSeen_96 : zD cX2_isAsSeen 96 (.ireturn) 1 97 := ⟨by decide +kernel, rfl⟩
theorem dX3_init_0 : zD cX3_init 0 (.aload_n 0) 1 1 := ⟨by decide +kernel, rfl⟩
theorem dX3_init_1 : zD cX3_init 1 (.invokespecial 3) 3 4 := ⟨by decide +kernel, rfl⟩
theorem dX3_init_4 : zD cX3_init 4 (.aload_n 0) 1 5 := ⟨by decide +kernel, rfl⟩
theorem dX3_init_5 : zD cX3_init 5 (.bipush 96) 2 7 := ⟨by decide +kernel, rfl⟩
theorem dX3_init_7 : zD cX3_init 7 (.newarray .int) 2 9 := ⟨by decide +kernel, rfl⟩
theorem dX3_init_9 : zD cX3_init 9 (.putfield 11) 3 12 := ⟨by decide +kernel, rfl⟩
theorem dX3_init_12 : zD cX3_init 12 (.aload_n 0) 1 13 := ⟨by decide +kernel, rfl⟩
theorem dX3_init_13 : zD cX3_init 13 (.bipush 6) 2 15 := ⟨by decide +kernel, rfl⟩
theorem dX3_init_15 : zD cX3_init 15 (.newarray .int) 2 17 := ⟨by decide +kernel, rfl⟩
theorem dX3_init_17 : zD cX3_init 17 (.putfield 15) 3 20 := ⟨by decide +kernel, rfl⟩
theorem dX3_init_20 : zD cX3_init 20 (.aload_n 0) 1 21 := ⟨by decide +kernel, rfl⟩
theorem dX3_init_21 : zD cX3_init 21 (.iconst 4) 1 22 := ⟨by decide +kernel, rfl⟩
theorem dX3_init_22 : zD cX3_init 22 (.newarray .int) 2 24 := ⟨by decide +kernel, rfl⟩
theorem dX3_init_24 : zD cX3_init 24 (.putfield 18) 3 27 := ⟨by decide +kernel, rfl⟩
theorem dX3_init_27 : zD cX3_init 27 (.aload_n 0) 1 28 := ⟨by decide +kernel, rfl⟩
theorem dX3_init_28 : zD cX3_init 28 (.iconst 4) 1 29 := ⟨by decide +kernel, rfl⟩
theorem dX3_init_29 : zD cX3_init 29 (.newarray .int) 2 31 := ⟨by decide +kernel, rfl⟩
theorem dX3_init_31 : zD cX3_init 31 (.putfield 21) 3 34 := ⟨by decide +kernel, rfl⟩
theorem dX3_init_34 : zD cX3_init 34 (.aload_n 0) 1 35 := ⟨by decide +kernel, rfl⟩
theorem dX3_init_35 : zD cX3_init 35 (.iconst 0) 1 36 := ⟨by decide +kernel, rfl⟩
theorem dX3_init_36 : zD cX3_init 36 (.putfield 24) 3 39 := ⟨by decide +kernel, rfl⟩
theorem dX3_init_39 : zD cX3_init 39 (.aload_n 0) 1 40 := ⟨by decide +kernel, rfl⟩
theorem dX3_init_40 : zD cX3_init 40 (.iconst 0) 1 41 := ⟨by decide +kernel, rfl⟩
theorem dX3_init_41 : zD cX3_init 41 (.putfield 28) 3 44 := ⟨by decide +kernel, rfl⟩
theorem dX3_init_44 : zD cX3_init 44 (.return_) 1 45 := ⟨by decide +kernel, rfl⟩
theorem dX3_findBest_0 : zD cX3_findBest 0 (.aload_n 0) 1 1 := ⟨by decide +kernel, rfl⟩
theorem dX3_findBest_1 : zD cX3_findBest 1 (.aload_n 1) 1 2 := ⟨by decide +kernel, rfl⟩
theorem dX3_findBest_2 : zD cX3_findBest 2 (.invokevirtual 31) 3 5 := ⟨by decide +kernel, rfl⟩
theorem dX3_findBest_5 : zD cX3_findBest 5 (.aload_n 0) 1 6 := ⟨by decide +kernel, rfl⟩
theorem dX3_findBest_6 : zD cX3_findBest 6 (.aload_n 1) 1 7 := ⟨by decide +kernel, rfl⟩
theorem dX3_findBest_7 : zD cX3_findBest 7 (.invokevirtual 35) 3 10 := ⟨by decide +kernel, rfl⟩
theorem dX3_findBest_10 : zD cX3_findBest 10 (.iconst 1) 1 11 := ⟨by decide +kernel, rfl⟩
theorem dX3_findBest_11 : zD cX3_findBest 11 (.istore_n 2) 1 12 := ⟨by decide +kernel, rfl⟩
theorem dX3_findBest_12 : zD cX3_findBest 12 (.iconst 0) 1 13 := ⟨by decide +kernel, rfl⟩
theorem dX3_findBest_13 : zD cX3_findBest 13 (.istore_n 3) 1 14 := ⟨by decide +kernel, rfl⟩
theorem dX3_findBest_14 : zD cX3_findBest 14 (.iload_n 3) 1 15 := ⟨by decide +kernel, rfl⟩
theorem dX3_findBest_15 : zD cX3_findBest 15 (.aload_n 1) 1 16 := ⟨by decide +kernel, rfl⟩
theorem dX3_findBest_16 : zD cX3_findBest 16 (.getfield 38) 3 19 := ⟨by decide +kernel, rfl⟩
theorem dX3_findBest_19 : zJ cX3_findBest 19 (fun o => .if_icmp .ge o) 35 22 := ⟨16, by decide +kernel, by decide, rfl⟩
theorem dX3_findBest_22 : zD cX3_findBest 22 (.iload_n 2) 1 23 := ⟨by decide +kernel, rfl⟩
theorem dX3_findBest_23 : zD cX3_findBest 23 (.aload_n 1) 1 24 := ⟨by decide +kernel, rfl⟩
theorem dX3_findBest_24 : zD cX3_findBest 24 (.getfield 43) 3 27 := ⟨by decide +kernel, rfl⟩
theorem dX3_findBest_27 : zD cX3_findBest 27 (.imul) 1 28 := ⟨by decide +kernel, rfl⟩
theorem dX3_findBest_28 : zD cX3_findBest 28 (.istore_n 2) 1 29 := ⟨by decide +kernel, rfl⟩
theorem dX3_findBest_29 : zD cX3_findBest 29 (.iinc 3 1) 3 32 := ⟨by decide +kernel, rfl⟩
theorem dX3_findBest_32 : zG cX3_findBest 32 14 := ⟨(-18), by decide +kernel, by decide⟩
theorem dX3_findBest_35 : zD cX3_findBest 35 (.aload_n 0) 1 36 := ⟨by decide +kernel, rfl⟩
theorem dX3_findBest_36 : zD cX3_findBest 36 (.iconst (-1)) 1 37 := ⟨by decide +kernel, rfl⟩
theorem dX3_findBest_37 : zD cX3_findBest 37 (.putfield 28) 3 40 := ⟨by decide +kernel, rfl⟩
theorem dX3_findBest_40 : zD cX3_findBest 40 (.iconst 0) 1 41 := ⟨by decide +kernel, rfl⟩
theorem dX3_findBest_41 : zD cX3_findBest 41 (.istore_n 3) 1 42 := ⟨by decide +kernel, rfl⟩
theorem dX3_findBest_42 : zD cX3_findBest 42 (.iload_n 3) 1 43 := ⟨by decide +kernel, rfl⟩
theorem dX3_findBest_43 : zD cX3_findBest 43 (.iload_n 2) 1 44 := ⟨by decide +kernel, rfl⟩
theorem dX3_findBest_44 : zJ cX3_findBest 44 (fun o => .if_icmp .ge o) 91 47 := ⟨47, by decide +kernel, by decide, rfl⟩
theorem dX3_findBest_47 : zD cX3_findBest 47 (.aload_n 0) 1 48 := ⟨by decide +kernel, rfl⟩
theorem dX3_findBest_48 : zD cX3_findBest 48 (.getfield 24) 3 51 := ⟨by decide +kernel, rfl⟩
theorem dX3_findBest_51 : zD cX3_findBest 51 (.aload_n 0) 1 52 := ⟨by decide +kernel, rfl⟩
theorem dX3_findBest_52 : zD cX3_findBest 52 (.getfield 28) 3 55 := ⟨by decide +kernel, rfl⟩
theorem dX3_findBest_55 : zJ cX3_findBest 55 (fun o => .if_icmp .le o) 80 58 := ⟨25, by decide +kernel, by decide, rfl⟩
theorem dX3_findBest_58 : zD cX3_findBest 58 (.aload_n 0) 1 59 := ⟨by decide +kernel, rfl⟩
theorem dX3_findBest_59 : zD cX3_findBest 59 (.aload_n 0) 1 60 := ⟨by decide +kernel, rfl⟩
theorem dX3_findBest_60 : zD cX3_findBest 60 (.getfield 24) 3 63 := ⟨by decide +kernel, rfl⟩
theorem dX3_findBest_63 : zD cX3_findBest 63 (.putfield 28) 3 66 := ⟨by decide +kernel, rfl⟩
theorem dX3_findBest_66 : zD cX3_findBest 66 (.aload_n 0) 1 67 := ⟨by decide +kernel, rfl⟩
theorem dX3_findBest_67 : zD cX3_findBest 67 (.getfield 18) 3 70 := ⟨by decide +kernel, rfl⟩
theorem dX3_findBest_70 : zD cX3_findBest 70 (.iconst 0) 1 71 := ⟨by decide +kernel, rfl⟩
theorem dX3_findBest_71 : zD cX3_findBest 71 (.aload_n 0) 1 72 := ⟨by decide +kernel, rfl⟩
theorem dX3_findBest_72 : zD cX3_findBest 72 (.getfield 21) 3 75 := ⟨by decide +kernel, rfl⟩
theorem dX3_findBest_75 : zD cX3_findBest 75 (.iconst 0) 1 76 := ⟨by decide +kernel, rfl⟩
theorem dX3_findBest_76 : zD cX3_findBest 76 (.iconst 4) 1 77 := ⟨by decide +kernel, rfl⟩
theorem dX3_findBest_77 : zD cX3_findBest 77 (.invokestatic 46) 3 80 := ⟨by decide +kernel, rfl⟩
theorem dX3_findBest_80 : zD cX3_findBest 80 (.aload_n 0) 1 81 := ⟨by decide +kernel, rfl⟩
theorem dX3_findBest_81 : zD cX3_findBest 81 (.aload_n 1) 1 82 := ⟨by decide +kernel, rfl⟩
theorem dX3_findBest_82 : zD cX3_findBest 82 (.invokevirtual 52) 3 85 := ⟨by decide +kernel, rfl⟩
theorem dX3_findBest_85 : zD cX3_findBest 85 (.iinc 3 1) 3 88 := ⟨by decide +kernel, rfl⟩
theorem dX3_findBest_88 : zG cX3_findBest 88 42 := ⟨(-46), by decide +kernel, by decide⟩
theorem dX3_findBest_91 : zD cX3_findBest 91 (.return_) 1 92 := ⟨by decide +kernel, rfl⟩
theorem dX3_weigh_0 : zD cX3_weigh 0 (.iconst 0) 1 1 := ⟨by decide +kernel, rfl⟩
theorem dX3_weigh_1 : zD cX3_weigh 1 (.istore_n 2) 1 2 := ⟨by decide +kernel, rfl⟩
theorem dX3_weigh_2 : zD cX3_weigh 2 (.iload_n 2) 1 3 := ⟨by decide +kernel, rfl⟩
theorem dX3_weigh_3 : zD cX3_weigh 3 (.iconst 1) 1 4 := ⟨by decide +kernel, rfl⟩
theorem dX3_weigh_4 : zD cX3_weigh 4 (.aload_n 1) 1 5 := ⟨by decide +kernel, rfl⟩
theorem dX3_weigh_5 : zD cX3_weigh 5 (.getfield 38) 3 8 := ⟨by decide +kernel, rfl⟩
theorem dX3_weigh_8 : zD cX3_weigh 8 (.ishl) 1 9 := ⟨by decide +kernel, rfl⟩
theorem dX3_weigh_9 : zJ cX3_weigh 9 (fun o => .if_icmp .ge o) 94 12 := ⟨85, by decide +kernel, by decide, rfl⟩
theorem dX3_weigh_12 : zD cX3_weigh 12 (.iconst 0) 1 13 := ⟨by decide +kernel, rfl⟩
theorem dX3_weigh_13 : zD cX3_weigh 13 (.istore_n 3) 1 14 := ⟨by decide +kernel, rfl⟩
theorem dX3_weigh_14 : zD cX3_weigh 14 (.iconst 0) 1 15 := ⟨by decide +kernel, rfl⟩
theorem dX3_weigh_15 : zD cX3_weigh 15 (.istore 4) 2 17 := ⟨by decide +kernel, rfl⟩
theorem dX3_weigh_17 : zD cX3_weigh 17 (.iload 4) 2 19 := ⟨by decide +kernel, rfl⟩
theorem dX3_weigh_19 : zD cX3_weigh 19 (.aload_n 1) 1 20 := ⟨by decide +kernel, rfl⟩
theorem dX3_weigh_20 : zD cX3_weigh 20 (.getfield 38) 3 23 := ⟨by decide +kernel, rfl⟩
theorem dX3_weigh_23 : zJ cX3_weigh 23 (fun o => .if_icmp .ge o) 49 26 := ⟨26, by decide +kernel, by decide, rfl⟩
theorem dX3_weigh_26 : zD cX3_weigh 26 (.iload_n 3) 1 27 := ⟨by decide +kernel, rfl⟩
theorem dX3_weigh_27 : zD cX3_weigh 27 (.iload_n 2) 1 28 := ⟨by decide +kernel, rfl⟩
theorem dX3_weigh_28 : zD cX3_weigh 28 (.iload 4) 2 30 := ⟨by decide +kernel, rfl⟩
theorem dX3_weigh_30 : zD cX3_weigh 30 (.ishr) 1 31 := ⟨by decide +kernel, rfl⟩
theorem dX3_weigh_31 : zD cX3_weigh 31 (.iconst 1) 1 32 := ⟨by decide +kernel, rfl⟩
theorem dX3_weigh_32 : zD cX3_weigh 32 (.iand) 1 33 := ⟨by decide +kernel, rfl⟩
theorem dX3_weigh_33 : zD cX3_weigh 33 (.aload_n 1) 1 34 := ⟨by decide +kernel, rfl⟩
theorem dX3_weigh_34 : zD cX3_weigh 34 (.getfield 55) 3 37 := ⟨by decide +kernel, rfl⟩
theorem dX3_weigh_37 : zD cX3_weigh 37 (.iload 4) 2 39 := ⟨by decide +kernel, rfl⟩
theorem dX3_weigh_39 : zD cX3_weigh 39 (.iaload) 1 40 := ⟨by decide +kernel, rfl⟩
theorem dX3_weigh_40 : zD cX3_weigh 40 (.imul) 1 41 := ⟨by decide +kernel, rfl⟩
theorem dX3_weigh_41 : zD cX3_weigh 41 (.iadd) 1 42 := ⟨by decide +kernel, rfl⟩
theorem dX3_weigh_42 : zD cX3_weigh 42 (.istore_n 3) 1 43 := ⟨by decide +kernel, rfl⟩
theorem dX3_weigh_43 : zD cX3_weigh 43 (.iinc 4 1) 3 46 := ⟨by decide +kernel, rfl⟩
theorem dX3_weigh_46 : zG cX3_weigh 46 17 := ⟨(-29), by decide +kernel, by decide⟩
theorem dX3_weigh_49 : zD cX3_weigh 49 (.iconst 0) 1 50 := ⟨by decide +kernel, rfl⟩
theorem dX3_weigh_50 : zD cX3_weigh 50 (.istore 4) 2 52 := ⟨by decide +kernel, rfl⟩
theorem dX3_weigh_52 : zD cX3_weigh 52 (.iload 4) 2 54 := ⟨by decide +kernel, rfl⟩
theorem dX3_weigh_54 : zD cX3_weigh 54 (.aload_n 1) 1 55 := ⟨by decide +kernel, rfl⟩
theorem dX3_weigh_55 : zD cX3_weigh 55 (.getfield 43) 3 58 := ⟨by decide +kernel, rfl⟩
theorem dX3_weigh_58 : zJ cX3_weigh 58 (fun o => .if_icmp .ge o) 88 61 := ⟨30, by decide +kernel, by decide, rfl⟩
theorem dX3_weigh_61 : zD cX3_weigh 61 (.aload_n 0) 1 62 := ⟨by decide +kernel, rfl⟩
theorem dX3_weigh_62 : zD cX3_weigh 62 (.getfield 11) 3 65 := ⟨by decide +kernel, rfl⟩
theorem dX3_weigh_65 : zD cX3_weigh 65 (.iload 4) 2 67 := ⟨by decide +kernel, rfl⟩
theorem dX3_weigh_67 : zD cX3_weigh 67 (.bipush 16) 2 69 := ⟨by decide +kernel, rfl⟩
theorem dX3_weigh_69 : zD cX3_weigh 69 (.imul) 1 70 := ⟨by decide +kernel, rfl⟩
theorem dX3_weigh_70 : zD cX3_weigh 70 (.iload_n 2) 1 71 := ⟨by decide +kernel, rfl⟩
theorem dX3_weigh_71 : zD cX3_weigh 71 (.iadd) 1 72 := ⟨by decide +kernel, rfl⟩
theorem dX3_weigh_72 : zD cX3_weigh 72 (.aload_n 1) 1 73 := ⟨by decide +kernel, rfl⟩
theorem dX3_weigh_73 : zD cX3_weigh 73 (.iload 4) 2 75 := ⟨by decide +kernel, rfl⟩
theorem dX3_weigh_75 : zD cX3_weigh 75 (.iload_n 3) 1 76 := ⟨by decide +kernel, rfl⟩
theorem dX3_weigh_76 : zD cX3_weigh 76 (.bipush 6) 2 78 := ⟨by decide +kernel, rfl⟩
theorem dX3_weigh_78 : zD cX3_weigh 78 (.invokevirtual 58) 3 81 := ⟨by decide +kernel, rfl⟩
theorem dX3_weigh_81 : zD cX3_weigh 81 (.iastore) 1 82 := ⟨by decide +kernel, rfl⟩
theorem dX3_weigh_82 : zD cX3_weigh 82 (.iinc 4 1) 3 85 := ⟨by decide +kernel, rfl⟩
theorem dX3_weigh_85 : zG cX3_weigh 85 52 := ⟨(-33), by decide +kernel, by decide⟩
theorem dX3_weigh_88 : zD cX3_weigh 88 (.iinc 2 1) 3 91 := ⟨by decide +kernel, rfl⟩
theorem dX3_weigh_91 : zG cX3_weigh 91 2 := ⟨(-89), by decide +kernel, by decide⟩
theorem dX3_weigh_94 : zD cX3_weigh 94 (.return_) 1 95 := ⟨by decide +kernel, rfl⟩
theorem dX3_beginRows_0 : zD cX3_beginRows 0 (.iconst 0) 1 1 := ⟨by decide +kernel, rfl⟩
theorem dX3_beginRows_1 : zD cX3_beginRows 1 (.istore_n 2) 1 2 := ⟨by decide +kernel, rfl⟩
theorem dX3_beginRows_2 : zD cX3_beginRows 2 (.iload_n 2) 1 3 := ⟨by decide +kernel, rfl⟩
theorem dX3_beginRows_3 : zD cX3_beginRows 3 (.iconst 4) 1 4 := ⟨by decide +kernel, rfl⟩
theorem dX3_beginRows_4 : zJ cX3_beginRows 4 (fun o => .if_icmp .ge o) 20 7 := ⟨16, by decide +kernel, by decide, rfl⟩
theorem dX3_beginRows_7 : zD cX3_beginRows 7 (.aload_n 0) 1 8 := ⟨by decide +kernel, rfl⟩
theorem dX3_beginRows_8 : zD cX3_beginRows 8 (.getfield 18) 3 11 := ⟨by decide +kernel, rfl⟩
theorem dX3_beginRows_11 : zD cX3_beginRows 11 (.iload_n 2) 1 12 := ⟨by decide +kernel, rfl⟩
theorem dX3_beginRows_12 : zD cX3_beginRows 12 (.iconst 0) 1 13 := ⟨by decide +kernel, rfl⟩
theorem dX3_beginRows_13 : zD cX3_beginRows 13 (.iastore) 1 14 := ⟨by decide +kernel, rfl⟩
theorem dX3_beginRows_14 : zD cX3_beginRows 14 (.iinc 2 1) 3 17 := ⟨by decide +kernel, rfl⟩
theorem dX3_beginRows_17 : zG cX3_beginRows 17 2 := ⟨(-15), by decide +kernel, by decide⟩
theorem dX3_beginRows_20 : zD cX3_beginRows 20 (.aload_n 0) 1 21 := ⟨by decide +kernel, rfl⟩
theorem dX3_beginRows_21 : zD cX3_beginRows 21 (.iconst 0) 1 22 := ⟨by decide +kernel, rfl⟩
theorem dX3_beginRows_22 : zD cX3_beginRows 22 (.putfield 24) 3 25 := ⟨by decide +kernel, rfl⟩
theorem dX3_beginRows_25 : zD cX3_beginRows 25 (.iconst 0) 1 26 := ⟨by decide +kernel, rfl⟩
theorem dX3_beginRows_26 : zD cX3_beginRows 26 (.istore_n 2) 1 27 := ⟨by decide +kernel, rfl⟩
theorem dX3_beginRows_27 : zD cX3_beginRows 27 (.iload_n 2) 1 28 := ⟨by decide +kernel, rfl⟩
theorem dX3_beginRows_28 : zD cX3_beginRows 28 (.aload_n 1) 1 29 := ⟨by decide +kernel, rfl⟩
theorem dX3_beginRows_29 : zD cX3_beginRows 29 (.getfield 43) 3 32 := ⟨by decide +kernel, rfl⟩
theorem dX3_beginRows_32 : zJ cX3_beginRows 32 (fun o => .if_icmp .ge o) 88 35 := ⟨56, by decide +kernel, by decide, rfl⟩
theorem dX3_beginRows_35 : zD cX3_beginRows 35 (.aload_n 0) 1 36 := ⟨by decide +kernel, rfl⟩
theorem dX3_beginRows_36 : zD cX3_beginRows 36 (.getfield 15) 3 39 := ⟨by decide +kernel, rfl⟩
theorem dX3_beginRows_39 : zD cX3_beginRows 39 (.iload_n 2) 1 40 := ⟨by decide +kernel, rfl⟩
theorem dX3_beginRows_40 : zD cX3_beginRows 40 (.iload_n 2) 1 41 := ⟨by decide +kernel, rfl⟩
theorem dX3_beginRows_41 : zJ cX3_beginRows 41 (fun o => .ifCond .ne o) 55 44 := ⟨14, by decide +kernel, by decide, rfl⟩
theorem dX3_beginRows_44 : zD cX3_beginRows 44 (.iconst 1) 1 45 := ⟨by decide +kernel, rfl⟩
theorem dX3_beginRows_45 : zD cX3_beginRows 45 (.aload_n 1) 1 46 := ⟨by decide +kernel, rfl⟩
theorem dX3_beginRows_46 : zD cX3_beginRows 46 (.getfield 38) 3 49 := ⟨by decide +kernel, rfl⟩
theorem dX3_beginRows_49 : zD cX3_beginRows 49 (.ishl) 1 50 := ⟨by decide +kernel, rfl⟩
theorem dX3_beginRows_50 : zD cX3_beginRows 50 (.iconst 1) 1 51 := ⟨by decide +kernel, rfl⟩
theorem dX3_beginRows_51 : zD cX3_beginRows 51 (.isub) 1 52 := ⟨by decide +kernel, rfl⟩
theorem dX3_beginRows_52 : zG cX3_beginRows 52 56 := ⟨4, by decide +kernel, by decide⟩
theorem dX3_beginRows_55 : zD cX3_beginRows 55 (.iconst 0) 1 56 := ⟨by decide +kernel, rfl⟩
theorem dX3_beginRows_56 : zD cX3_beginRows 56 (.iastore) 1 57 := ⟨by decide +kernel, rfl⟩
theorem dX3_beginRows_57 : zD cX3_beginRows 57 (.aload_n 0) 1 58 := ⟨by decide +kernel, rfl⟩
theorem dX3_beginRows_58 : zD cX3_beginRows 58 (.dup) 1 59 := ⟨by decide +kernel, rfl⟩
theorem dX3_beginRows_59 : zD cX3_beginRows 59 (.getfield 24) 3 62 := ⟨by decide +kernel, rfl⟩
theorem dX3_beginRows_62 : zD cX3_beginRows 62 (.aload_n 0) 1 63 := ⟨by decide +kernel, rfl⟩
theorem dX3_beginRows_63 : zD cX3_beginRows 63 (.getfield 11) 3 66 := ⟨by decide +kernel, rfl⟩
theorem dX3_beginRows_66 : zD cX3_beginRows 66 (.iload_n 2) 1 67 := ⟨by decide +kernel, rfl⟩
theorem dX3_beginRows_67 : zD cX3_beginRows 67 (.bipush 16) 2 69 := ⟨by decide +kernel, rfl⟩
theorem dX3_beginRows_69 : zD cX3_beginRows 69 (.imul) 1 70 := ⟨by decide +kernel, rfl⟩
theorem dX3_beginRows_70 : zD cX3_beginRows 70 (.aload_n 0) 1 71 := ⟨by decide +kernel, rfl⟩
theorem dX3_beginRows_71 : zD cX3_beginRows 71 (.getfield 15) 3 74 := ⟨by decide +kernel, rfl⟩
theorem dX3_beginRows_74 : zD cX3_beginRows 74 (.iload_n 2) 1 75 := ⟨by decide +kernel, rfl⟩
theorem dX3_beginRows_75 : zD cX3_beginRows 75 (.iaload) 1 76 := ⟨by decide +kernel, rfl⟩
theorem dX3_beginRows_76 : zD cX3_beginRows 76 (.iadd) 1 77 := ⟨by decide +kernel, rfl⟩
theorem dX3_beginRows_77 : zD cX3_beginRows 77 (.iaload) 1 78 := ⟨by decide +kernel, rfl⟩
theorem dX3_beginRows_78 : zD cX3_beginRows 78 (.iadd) 1 79 := ⟨by decide +kernel, rfl⟩
theorem dX3_beginRows_79 : zD cX3_beginRows 79 (.putfield 24) 3 82 := ⟨by decide +kernel, rfl⟩
theorem dX3_beginRows_82 : zD cX3_beginRows 82 (.iinc 2 1) 3 85 := ⟨by decide +kernel, rfl⟩
theorem dX3_beginRows_85 : zG cX3_beginRows 85 27 := ⟨(-58), by decide +kernel, by decide⟩
theorem dX3_beginRows_88 : zD cX3_beginRows 88 (.return_) 1 89 := ⟨by decide +kernel, rfl⟩
theorem dX3_nextRow_0 : zD cX3_nextRow 0 (.aload_n 1) 1 1 := ⟨by decide +kernel, rfl⟩
theorem dX3_nextRow_1 : zD cX3_nextRow 1 (.getfield 38) 3 4 := ⟨by decide +kernel, rfl⟩
theorem dX3_nextRow_4 : zD cX3_nextRow 4 (.iconst 1) 1 5 := ⟨by decide +kernel, rfl⟩
theorem dX3_nextRow_5 : zD cX3_nextRow 5 (.isub) 1 6 := ⟨by decide +kernel, rfl⟩
theorem dX3_nextRow_6 : zD cX3_nextRow 6 (.istore_n 2) 1 7 := ⟨by decide +kernel, rfl⟩
theorem dX3_nextRow_7 : zD cX3_nextRow 7 (.iload_n 2) 1 8 := ⟨by decide +kernel, rfl⟩
theorem dX3_nextRow_8 : zJ cX3_nextRow 8 (fun o => .ifCond .lt o) 52 11 := ⟨44, by decide +kernel, by decide, rfl⟩
theorem dX3_nextRow_11 : zD cX3_nextRow 11 (.aload_n 0) 1 12 := ⟨by decide +kernel, rfl⟩
theorem dX3_nextRow_12 : zD cX3_nextRow 12 (.getfield 18) 3 15 := ⟨by decide +kernel, rfl⟩
theorem dX3_nextRow_15 : zD cX3_nextRow 15 (.iload_n 2) 1 16 := ⟨by decide +kernel, rfl⟩
theorem dX3_nextRow_16 : zD cX3_nextRow 16 (.iaload) 1 17 := ⟨by decide +kernel, rfl⟩
theorem dX3_nextRow_17 : zD cX3_nextRow 17 (.aload_n 1) 1 18 := ⟨by decide +kernel, rfl⟩
theorem dX3_nextRow_18 : zD cX3_nextRow 18 (.getfield 43) 3 21 := ⟨by decide +kernel, rfl⟩
theorem dX3_nextRow_21 : zD cX3_nextRow 21 (.iconst 1) 1 22 := ⟨by decide +kernel, rfl⟩
theorem dX3_nextRow_22 : zD cX3_nextRow 22 (.isub) 1 23 := ⟨by decide +kernel, rfl⟩
theorem dX3_nextRow_23 : zJ cX3_nextRow 23 (fun o => .if_icmp .ge o) 40 26 := ⟨17, by decide +kernel, by decide, rfl⟩
theorem dX3_nextRow_26 : zD cX3_nextRow 26 (.aload_n 0) 1 27 := ⟨by decide +kernel, rfl⟩
theorem dX3_nextRow_27 : zD cX3_nextRow 27 (.iload_n 2) 1 28 := ⟨by decide +kernel, rfl⟩
theorem dX3_nextRow_28 : zD cX3_nextRow 28 (.aload_n 0) 1 29 := ⟨by decide +kernel, rfl⟩
theorem dX3_nextRow_29 : zD cX3_nextRow 29 (.getfield 18) 3 32 := ⟨by decide +kernel, rfl⟩
theorem dX3_nextRow_32 : zD cX3_nextRow 32 (.iload_n 2) 1 33 := ⟨by decide +kernel, rfl⟩
theorem dX3_nextRow_33 : zD cX3_nextRow 33 (.iaload) 1 34 := ⟨by decide +kernel, rfl⟩
theorem dX3_nextRow_34 : zD cX3_nextRow 34 (.iconst 1) 1 35 := ⟨by decide +kernel, rfl⟩
theorem dX3_nextRow_35 : zD cX3_nextRow 35 (.iadd) 1 36 := ⟨by decide +kernel, rfl⟩
theorem dX3_nextRow_36 : zD cX3_nextRow 36 (.invokevirtual 62) 3 39 := ⟨by decide +kernel, rfl⟩
theorem dX3_nextRow_39 : zD cX3_nextRow 39 (.return_) 1 40 := ⟨by decide +kernel, rfl⟩
theorem dX3_nextRow_40 : zD cX3_nextRow 40 (.aload_n 0) 1 41 := ⟨by decide +kernel, rfl⟩
theorem dX3_nextRow_41 : zD cX3_nextRow 41 (.iload_n 2) 1 42 := ⟨by decide +kernel, rfl⟩
theorem dX3_nextRow_42 : zD cX3_nextRow 42 (.iconst 0) 1 43 := ⟨by decide +kernel, rfl⟩
theorem dX3_nextRow_43 : zD cX3_nextRow 43 (.invokevirtual 62) 3 46 := ⟨by decide +kernel, rfl⟩
theorem dX3_nextRow_46 : zD cX3_nextRow 46 (.iinc 2 (-1)) 3 49 := ⟨by decide +kernel, rfl⟩
theorem dX3_nextRow_49 : zG cX3_nextRow 49 7 := ⟨(-42), by decide +kernel, by decide⟩
theorem dX3_nextRow_52 : zD cX3_nextRow 52 (.return_) 1 53 := ⟨by decide +kernel, rfl⟩
theorem dX3_place_0 : zD cX3_place 0 (.aload_n 0) 1 1 := ⟨by decide +kernel, rfl⟩
theorem dX3_place_1 : zD cX3_place 1 (.iload_n 1) 1 2 := ⟨by decide +kernel, rfl⟩
theorem dX3_place_2 : zD cX3_place 2 (.aload_n 0) 1 3 := ⟨by decide +kernel, rfl⟩
theorem dX3_place_3 : zD cX3_place 3 (.getfield 18) 3 6 := ⟨by decide +kernel, rfl⟩
theorem dX3_place_6 : zD cX3_place 6 (.iload_n 1) 1 7 := ⟨by decide +kernel, rfl⟩
theorem dX3_place_7 : zD cX3_place 7 (.iaload) 1 8 := ⟨by decide +kernel, rfl⟩
theorem dX3_place_8 : zD cX3_place 8 (.invokevirtual 66) 3 11 := ⟨by decide +kernel, rfl⟩
theorem dX3_place_11 : zD cX3_place 11 (.aload_n 0) 1 12 := ⟨by decide +kernel, rfl⟩
theorem dX3_place_12 : zD cX3_place 12 (.iload_n 1) 1 13 := ⟨by decide +kernel, rfl⟩
theorem dX3_place_13 : zD cX3_place 13 (.iload_n 2) 1 14 := ⟨by decide +kernel, rfl⟩
theorem dX3_place_14 : zD cX3_place 14 (.invokevirtual 66) 3 17 := ⟨by decide +kernel, rfl⟩
theorem dX3_place_17 : zD cX3_place 17 (.aload_n 0) 1 18 := ⟨by decide +kernel, rfl⟩
theorem dX3_place_18 : zD cX3_place 18 (.getfield 18) 3 21 := ⟨by decide +kernel, rfl⟩
theorem dX3_place_21 : zD cX3_place 21 (.iload_n 1) 1 22 := ⟨by decide +kernel, rfl⟩
theorem dX3_place_22 : zD cX3_place 22 (.iload_n 2) 1 23 := ⟨by decide +kernel, rfl⟩
theorem dX3_place_23 : zD cX3_place 23 (.iastore) 1 24 := ⟨by decide +kernel, rfl⟩
theorem dX3_place_24 : zD cX3_place 24 (.return_) 1 25 := ⟨by decide +kernel, rfl⟩
theorem dX3_toggle_0 : zD cX3_toggle 0 (.aload_n 0) 1 1 := ⟨by decide +kernel, rfl⟩
theorem dX3_toggle_1 : zD cX3_toggle 1 (.dup) 1 2 := ⟨by decide +kernel, rfl⟩
theorem dX3_toggle_2 : zD cX3_toggle 2 (.getfield 24) 3 5 := ⟨by decide +kernel, rfl⟩
theorem dX3_toggle_5 : zD cX3_toggle 5 (.aload_n 0) 1 6 := ⟨by decide +kernel, rfl⟩
theorem dX3_toggle_6 : zD cX3_toggle 6 (.getfield 11) 3 9 := ⟨by decide +kernel, rfl⟩
theorem dX3_toggle_9 : zD cX3_toggle 9 (.iload_n 2) 1 10 := ⟨by decide +kernel, rfl⟩
theorem dX3_toggle_10 : zD cX3_toggle 10 (.bipush 16) 2 12 := ⟨by decide +kernel, rfl⟩
theorem dX3_toggle_12 : zD cX3_toggle 12 (.imul) 1 13 := ⟨by decide +kernel, rfl⟩
theorem dX3_toggle_13 : zD cX3_toggle 13 (.aload_n 0) 1 14 := ⟨by decide +kernel, rfl⟩
theorem dX3_toggle_14 : zD cX3_toggle 14 (.getfield 15) 3 17 := ⟨by decide +kernel, rfl⟩
theorem dX3_toggle_17 : zD cX3_toggle 17 (.iload_n 2) 1 18 := ⟨by decide +kernel, rfl⟩
theorem dX3_toggle_18 : zD cX3_toggle 18 (.iaload) 1 19 := ⟨by decide +kernel, rfl⟩
theorem dX3_toggle_19 : zD cX3_toggle 19 (.iadd) 1 20 := ⟨by decide +kernel, rfl⟩
theorem dX3_toggle_20 : zD cX3_toggle 20 (.iaload) 1 21 := ⟨by decide +kernel, rfl⟩
theorem dX3_toggle_21 : zD cX3_toggle 21 (.isub) 1 22 := ⟨by decide +kernel, rfl⟩
theorem dX3_toggle_22 : zD cX3_toggle 22 (.putfield 24) 3 25 := ⟨by decide +kernel, rfl⟩
theorem dX3_toggle_25 : zD cX3_toggle 25 (.aload_n 0) 1 26 := ⟨by decide +kernel, rfl⟩
theorem dX3_toggle_26 : zD cX3_toggle 26 (.getfield 15) 3 29 := ⟨by decide +kernel, rfl⟩
theorem dX3_toggle_29 : zD cX3_toggle 29 (.iload_n 2) 1 30 := ⟨by decide +kernel, rfl⟩
theorem dX3_toggle_30 : zD cX3_toggle 30 (.dup2) 1 31 := ⟨by decide +kernel, rfl⟩
theorem dX3_toggle_31 : zD cX3_toggle 31 (.iaload) 1 32 := ⟨by decide +kernel, rfl⟩
theorem dX3_toggle_32 : zD cX3_toggle 32 (.iconst 1) 1 33 := ⟨by decide +kernel, rfl⟩
theorem dX3_toggle_33 : zD cX3_toggle 33 (.iload_n 1) 1 34 := ⟨by decide +kernel, rfl⟩
theorem dX3_toggle_34 : zD cX3_toggle 34 (.ishl) 1 35 := ⟨by decide +kernel, rfl⟩
theorem dX3_toggle_35 : zD cX3_toggle 35 (.ixor) 1 36 := ⟨by decide +kernel, rfl⟩
theorem dX3_toggle_36 : zD cX3_toggle 36 (.iastore) 1 37 := ⟨by decide +kernel, rfl⟩
theorem dX3_toggle_37 : zD cX3_toggle 37 (.aload_n 0) 1 38 := ⟨by decide +kernel, rfl⟩
theorem dX3_toggle_38 : zD cX3_toggle 38 (.dup) 1 39 := ⟨by decide +kernel, rfl⟩
theorem dX3_toggle_39 : zD cX3_toggle 39 (.getfield 24) 3 42 := ⟨by decide +kernel, rfl⟩
theorem dX3_toggle_42 : zD cX3_toggle 42 (.aload_n 0) 1 43 := ⟨by decide +kernel, rfl⟩
theorem dX3_toggle_43 : zD cX3_toggle 43 (.getfield 11) 3 46 := ⟨by decide +kernel, rfl⟩
theorem dX3_toggle_46 : zD cX3_toggle 46 (.iload_n 2) 1 47 := ⟨by decide +kernel, rfl⟩
theorem dX3_toggle_47 : zD cX3_toggle 47 (.bipush 16) 2 49 := ⟨by decide +kernel, rfl⟩
theorem dX3_toggle_49 : zD cX3_toggle 49 (.imul) 1 50 := ⟨by decide +kernel, rfl⟩
theorem dX3_toggle_50 : zD cX3_toggle 50 (.aload_n 0) 1 51 := ⟨by decide +kernel, rfl⟩
theorem dX3_toggle_51 : zD cX3_toggle 51 (.getfield 15) 3 54 := ⟨by decide +kernel, rfl⟩
theorem dX3_toggle_54 : zD cX3_toggle 54 (.iload_n 2) 1 55 := ⟨by decide +kernel, rfl⟩
theorem dX3_toggle_55 : zD cX3_toggle 55 (.iaload) 1 56 := ⟨by decide +kernel, rfl⟩
theorem dX3_toggle_56 : zD cX3_toggle 56 (.iadd) 1 57 := ⟨by decide +kernel, rfl⟩
theorem dX3_toggle_57 : zD cX3_toggle 57 (.iaload) 1 58 := ⟨by decide +kernel, rfl⟩
theorem dX3_toggle_58 : zD cX3_toggle 58 (.iadd) 1 59 := ⟨by decide +kernel, rfl⟩
theorem dX3_toggle_59 : zD cX3_toggle 59 (.putfield 24) 3 62 := ⟨by decide +kernel, rfl⟩
theorem dX3_toggle_62 : zD cX3_toggle 62 (.return_) 1 63 := ⟨by decide +kernel, rfl⟩
theorem dX4_init_0 : zD cX4_init 0 (.aload_n 0) 1 1 := ⟨by decide +kernel, rfl⟩
theorem dX4_init_1 : zD cX4_init 1 (.invokespecial 3) 3 4 := ⟨by decide +kernel, rfl⟩
theorem dX4_init_4 : zD cX4_init 4 (.aload_n 0) 1 5 := ⟨by decide +kernel, rfl⟩
theorem dX4_init_5 : zD cX4_init 5 (.sipush 160) 3 8 := ⟨by decide +kernel, rfl⟩
theorem dX4_init_8 : zD cX4_init 8 (.newarray .int) 2 10 := ⟨by decide +kernel, rfl⟩
theorem dX4_init_10 : zD cX4_init 10 (.putfield 9) 3 13 := ⟨by decide +kernel, rfl⟩
theorem dX4_init_13 : zD cX4_init 13 (.aload_n 0) 1 14 := ⟨by decide +kernel, rfl⟩
theorem dX4_init_14 : zD cX4_init 14 (.iconst 4) 1 15 := ⟨by decide +kernel, rfl⟩
theorem dX4_init_15 : zD cX4_init 15 (.newarray .int) 2 17 := ⟨by decide +kernel, rfl⟩
theorem dX4_init_17 : zD cX4_init 17 (.putfield 15) 3 20 := ⟨by decide +kernel, rfl⟩
theorem dX4_init_20 : zD cX4_init 20 (.aload_n 0) 1 21 := ⟨by decide +kernel, rfl⟩
theorem dX4_init_21 : zD cX4_init 21 (.iconst 4) 1 22 := ⟨by decide +kernel, rfl⟩
theorem dX4_init_22 : zD cX4_init 22 (.newarray .int) 2 24 := ⟨by decide +kernel, rfl⟩
theorem dX4_init_24 : zD cX4_init 24 (.dup) 1 25 := ⟨by decide +kernel, rfl⟩
theorem dX4_init_25 : zD cX4_init 25 (.iconst 0) 1 26 := ⟨by decide +kernel, rfl⟩
theorem dX4_init_26 : zD cX4_init 26 (.iconst (-1)) 1 27 := ⟨by decide +kernel, rfl⟩
theorem dX4_init_27 : zD cX4_init 27 (.iastore) 1 28 := ⟨by decide +kernel, rfl⟩
theorem dX4_init_28 : zD cX4_init 28 (.dup) 1 29 := ⟨by decide +kernel, rfl⟩
theorem dX4_init_29 : zD cX4_init 29 (.iconst 1) 1 30 := ⟨by decide +kernel, rfl⟩
theorem dX4_init_30 : zD cX4_init 30 (.iconst (-1)) 1 31 := ⟨by decide +kernel, rfl⟩
theorem dX4_init_31 : zD cX4_init 31 (.iastore) 1 32 := ⟨by decide +kernel, rfl⟩
theorem dX4_init_32 : zD cX4_init 32 (.dup) 1 33 := ⟨by decide +kernel, rfl⟩
theorem dX4_init_33 : zD cX4_init 33 (.iconst 2) 1 34 := ⟨by decide +kernel, rfl⟩
theorem dX4_init_34 : zD cX4_init 34 (.iconst (-1)) 1 35 := ⟨by decide +kernel, rfl⟩
theorem dX4_init_35 : zD cX4_init 35 (.iastore) 1 36 := ⟨by decide +kernel, rfl⟩
theorem dX4_init_36 : zD cX4_init 36 (.dup) 1 37 := ⟨by decide +kernel, rfl⟩
theorem dX4_init_37 : zD cX4_init 37 (.iconst 3) 1 38 := ⟨by decide +kernel, rfl⟩
theorem dX4_init_38 : zD cX4_init 38 (.iconst (-1)) 1 39 := ⟨by decide +kernel, rfl⟩
theorem dX4_init_39 : zD cX4_init 39 (.iastore) 1 40 := ⟨by decide +kernel, rfl⟩
theorem dX4_init_40 : zD cX4_init 40 (.putfield 18) 3 43 := ⟨by decide +kernel, rfl⟩
theorem dX4_init_43 : zD cX4_init 43 (.return_) 1 44 := ⟨by decide +kernel, rfl⟩
theorem dX4_renew_0 : zD cX4_renew 0 (.aload_n 0) 1 1 := ⟨by decide +kernel, rfl⟩
theorem dX4_renew_1 : zD cX4_renew 1 (.getfield 15) 3 4 := ⟨by decide +kernel, rfl⟩
theorem dX4_renew_4 : zD cX4_renew 4 (.iload_n 1) 1 5 := ⟨by decide +kernel, rfl⟩
theorem dX4_renew_5 : zD cX4_renew 5 (.iload_n 2) 1 6 := ⟨by decide +kernel, rfl⟩
theorem dX4_renew_6 : zD cX4_renew 6 (.iastore) 1 7 := ⟨by decide +kernel, rfl⟩
theorem dX4_renew_7 : zD cX4_renew 7 (.aload_n 0) 1 8 := ⟨by decide +kernel, rfl⟩
theorem dX4_renew_8 : zD cX4_renew 8 (.getfield 18) 3 11 := ⟨by decide +kernel, rfl⟩
theorem dX4_renew_11 : zD cX4_renew 11 (.iload_n 1) 1 12 := ⟨by decide +kernel, rfl⟩
theorem dX4_renew_12 : zD cX4_renew 12 (.iload_n 3) 1 13 := ⟨by decide +kernel, rfl⟩
theorem dX4_renew_13 : zD cX4_renew 13 (.iastore) 1 14 := ⟨by decide +kernel, rfl⟩
theorem dX4_renew_14 : zD cX4_renew 14 (.iconst 0) 1 15 := ⟨by decide +kernel, rfl⟩
theorem dX4_renew_15 : zD cX4_renew 15 (.istore 4) 2 17 := ⟨by decide +kernel, rfl⟩
theorem dX4_renew_17 : zD cX4_renew 17 (.iload 4) 2 19 := ⟨by decide +kernel, rfl⟩
theorem dX4_renew_19 : zD cX4_renew 19 (.iload_n 3) 1 20 := ⟨by decide +kernel, rfl⟩
theorem dX4_renew_20 : zJ cX4_renew 20 (fun o => .if_icmp .ge o) 42 23 := ⟨22, by decide +kernel, by decide, rfl⟩
theorem dX4_renew_23 : zD cX4_renew 23 (.aload_n 0) 1 24 := ⟨by decide +kernel, rfl⟩
theorem dX4_renew_24 : zD cX4_renew 24 (.getfield 9) 3 27 := ⟨by decide +kernel, rfl⟩
theorem dX4_renew_27 : zD cX4_renew 27 (.iload_n 1) 1 28 := ⟨by decide +kernel, rfl⟩
theorem dX4_renew_28 : zD cX4_renew 28 (.bipush 40) 2 30 := ⟨by decide +kernel, rfl⟩
theorem dX4_renew_30 : zD cX4_renew 30 (.imul) 1 31 := ⟨by decide +kernel, rfl⟩
theorem dX4_renew_31 : zD cX4_renew 31 (.iload 4) 2 33 := ⟨by decide +kernel, rfl⟩
theorem dX4_renew_33 : zD cX4_renew 33 (.iadd) 1 34 := ⟨by decide +kernel, rfl⟩
theorem dX4_renew_34 : zD cX4_renew 34 (.iconst 0) 1 35 := ⟨by decide +kernel, rfl⟩
theorem dX4_renew_35 : zD cX4_renew 35 (.iastore) 1 36 := ⟨by decide +kernel, rfl⟩
theorem dX4_renew_36 : zD cX4_renew 36 (.iinc 4 1) 3 39 := ⟨by decide +kernel, rfl⟩
theorem dX4_renew_39 : zG cX4_renew 39 17 := ⟨(-22), by decide +kernel, by decide⟩
theorem dX4_renew_42 : zD cX4_renew 42 (.return_) 1 43 := ⟨by decide +kernel, rfl⟩
theorem dX4_faultAt_0 : zD cX4_faultAt 0 (.aload_n 0) 1 1 := ⟨by decide +kernel, rfl⟩
theorem dX4_faultAt_1 : zD cX4_faultAt 1 (.getfield 18) 3 4 := ⟨by decide +kernel, rfl⟩
theorem dX4_faultAt_4 : zD cX4_faultAt 4 (.iload_n 1) 1 5 := ⟨by decide +kernel, rfl⟩
theorem dX4_faultAt_5 : zD cX4_faultAt 5 (.iaload) 1 6 := ⟨by decide +kernel, rfl⟩
theorem dX4_faultAt_6 : zJ cX4_faultAt 6 (fun o => .ifCond .ge o) 11 9 := ⟨5, by decide +kernel, by decide, rfl⟩
theorem dX4_faultAt_9 : zD cX4_faultAt 9 (.iconst 1) 1 10 := ⟨by decide +kernel, rfl⟩
theorem dX4_faultAt_10 : zD cX4_faultAt 10 (.ireturn) 1 11 := ⟨by decide +kernel, rfl⟩
theorem dX4_faultAt_11 : zD cX4_faultAt 11 (.aload_n 0) 1 12 := ⟨by decide +kernel, rfl⟩
theorem dX4_faultAt_12 : zD cX4_faultAt 12 (.getfield 15) 3 15 := ⟨by decide +kernel, rfl⟩
theorem dX4_faultAt_15 : zD cX4_faultAt 15 (.iload_n 1) 1 16 := ⟨by decide +kernel, rfl⟩
theorem dX4_faultAt_16 : zD cX4_faultAt 16 (.iaload) 1 17 := ⟨by decide +kernel, rfl⟩
theorem dX4_faultAt_17 : zD cX4_faultAt 17 (.iload_n 2) 1 18 := ⟨by decide +kernel, rfl⟩
theorem dX4_faultAt_18 : zJ cX4_faultAt 18 (fun o => .if_icmp .eq o) 23 21 := ⟨5, by decide +kernel, by decide, rfl⟩
theorem dX4_faultAt_21 : zD cX4_faultAt 21 (.iconst 3) 1 22 := ⟨by decide +kernel, rfl⟩
theorem dX4_faultAt_22 : zD cX4_faultAt 22 (.ireturn) 1 23 := ⟨by decide +kernel, rfl⟩
theorem dX4_faultAt_23 : zD cX4_faultAt 23 (.iload_n 3) 1 24 := ⟨by decide +kernel, rfl⟩
theorem dX4_faultAt_24 : zD cX4_faultAt 24 (.iconst 0) 1 25 := ⟨by decide +kernel, rfl⟩
theorem dX4_faultAt_25 : zD cX4_faultAt 25 (.aload_n 0) 1 26 := ⟨by decide +kernel, rfl⟩
theorem dX4_faultAt_26 : zD cX4_faultAt 26 (.getfield 18) 3 29 := ⟨by decide +kernel, rfl⟩
theorem dX4_faultAt_29 : zD cX4_faultAt 29 (.iload_n 1) 1 30 := ⟨by decide +kernel, rfl⟩
theorem dX4_faultAt_30 : zD cX4_faultAt 30 (.iaload) 1 31 := ⟨by decide +kernel, rfl⟩
theorem dX4_faultAt_31 : zD cX4_faultAt 31 (.iconst 1) 1 32 := ⟨by decide +kernel, rfl⟩
theorem dX4_faultAt_32 : zD cX4_faultAt 32 (.isub) 1 33 := ⟨by decide +kernel, rfl⟩
theorem dX4_faultAt_33 : zD cX4_faultAt 33 (.invokestatic 21) 3 36 := ⟨by decide +kernel, rfl⟩
theorem dX4_faultAt_36 : zJ cX4_faultAt 36 (fun o => .ifCond .eq o) 43 39 := ⟨7, by decide +kernel, by decide, rfl⟩
theorem dX4_faultAt_39 : zD cX4_faultAt 39 (.iconst 0) 1 40 := ⟨by decide +kernel, rfl⟩
theorem dX4_faultAt_40 : zG cX4_faultAt 40 44 := ⟨4, by decide +kernel, by decide⟩
theorem dX4_faultAt_43 : zD cX4_faultAt 43 (.iconst 2) 1 44 := ⟨by decide +kernel, rfl⟩
theorem dX4_faultAt_44 : zD cX4_faultAt 44 (.ireturn) 1 45 := ⟨by decide +kernel, rfl⟩
theorem dX4_pairFault_0 : zD cX4_pairFault 0 (.aload_n 0) 1 1 := ⟨by decide +kernel, rfl⟩
theorem dX4_pairFault_1 : zD cX4_pairFault 1 (.iload_n 1) 1 2 := ⟨by decide +kernel, rfl⟩
theorem dX4_pairFault_2 : zD cX4_pairFault 2 (.iload_n 2) 1 3 := ⟨by decide +kernel, rfl⟩
theorem dX4_pairFault_3 : zD cX4_pairFault 3 (.iload_n 3) 1 4 := ⟨by decide +kernel, rfl⟩
theorem dX4_pairFault_4 : zD cX4_pairFault 4 (.invokevirtual 25) 3 7 := ⟨by decide +kernel, rfl⟩
theorem dX4_pairFault_7 : zD cX4_pairFault 7 (.istore 4) 2 9 := ⟨by decide +kernel, rfl⟩
theorem dX4_pairFault_9 : zD cX4_pairFault 9 (.iload 4) 2 11 := ⟨by decide +kernel, rfl⟩
theorem dX4_pairFault_11 : zJ cX4_pairFault 11 (fun o => .ifCond .eq o) 19 14 := ⟨8, by decide +kernel, by decide, rfl⟩
theorem dX4_pairFault_14 : zD cX4_pairFault 14 (.iload 4) 2 16 := ⟨by decide +kernel, rfl⟩
theorem dX4_pairFault_16 : zG cX4_pairFault 16 28 := ⟨12, by decide +kernel, by decide⟩
theorem dX4_pairFault_19 : zD cX4_pairFault 19 (.aload_n 0) 1 20 := ⟨by decide +kernel, rfl⟩
theorem dX4_pairFault_20 : zD cX4_pairFault 20 (.iload_n 1) 1 21 := ⟨by decide +kernel, rfl⟩
theorem dX4_pairFault_21 : zD cX4_pairFault 21 (.iload_n 2) 1 22 := ⟨by decide +kernel, rfl⟩
theorem dX4_pairFault_22 : zD cX4_pairFault 22 (.iload_n 3) 1 23 := ⟨by decide +kernel, rfl⟩
theorem dX4_pairFault_23 : zD cX4_pairFault 23 (.iconst 1) 1 24 := ⟨by decide +kernel, rfl⟩
theorem dX4_pairFault_24 : zD cX4_pairFault 24 (.iadd) 1 25 := ⟨by decide +kernel, rfl⟩
theorem dX4_pairFault_25 : zD cX4_pairFault 25 (.invokevirtual 25) 3 28 := ⟨by decide +kernel, rfl⟩
theorem dX4_pairFault_28 : zD cX4_pairFault 28 (.ireturn) 1 29 := ⟨by decide +kernel, rfl⟩
theorem dX4_put_0 : zD cX4_put 0 (.aload_n 0) 1 1 := ⟨by decide +kernel, rfl⟩
theorem dX4_put_1 : zD cX4_put 1 (.getfield 9) 3 4 := ⟨by decide +kernel, rfl⟩
theorem dX4_put_4 : zD cX4_put 4 (.iload_n 1) 1 5 := ⟨by decide +kernel, rfl⟩
theorem dX4_put_5 : zD cX4_put 5 (.bipush 40) 2 7 := ⟨by decide +kernel, rfl⟩
theorem dX4_put_7 : zD cX4_put 7 (.imul) 1 8 := ⟨by decide +kernel, rfl⟩
theorem dX4_put_8 : zD cX4_put 8 (.iload_n 2) 1 9 := ⟨by decide +kernel, rfl⟩
theorem dX4_put_9 : zD cX4_put 9 (.iadd) 1 10 := ⟨by decide +kernel, rfl⟩
theorem dX4_put_10 : zD cX4_put 10 (.aload_n 0) 1 11 := ⟨by decide +kernel, rfl⟩
theorem dX4_put_11 : zD cX4_put 11 (.getfield 15) 3 14 := ⟨by decide +kernel, rfl⟩
theorem dX4_put_14 : zD cX4_put 14 (.iload_n 1) 1 15 := ⟨by decide +kernel, rfl⟩
theorem dX4_put_15 : zD cX4_put 15 (.iaload) 1 16 := ⟨by decide +kernel, rfl⟩
theorem dX4_put_16 : zD cX4_put 16 (.iload_n 3) 1 17 := ⟨by decide +kernel, rfl⟩
theorem dX4_put_17 : zD cX4_put 17 (.invokestatic 29) 3 20 := ⟨by decide +kernel, rfl⟩
theorem dX4_put_20 : zD cX4_put 20 (.iastore) 1 21 := ⟨by decide +kernel, rfl⟩
theorem dX4_put_21 : zD cX4_put 21 (.return_) 1 22 := ⟨by decide +kernel, rfl⟩
theorem dX4_get_0 : zD cX4_get 0 (.aload_n 0) 1 1 := ⟨by decide +kernel, rfl⟩
theorem dX4_get_1 : zD cX4_get 1 (.getfield 9) 3 4 := ⟨by decide +kernel, rfl⟩
theorem dX4_get_4 : zD cX4_get 4 (.iload_n 1) 1 5 := ⟨by decide +kernel, rfl⟩
theorem dX4_get_5 : zD cX4_get 5 (.bipush 40) 2 7 := ⟨by decide +kernel, rfl⟩
theorem dX4_get_7 : zD cX4_get 7 (.imul) 1 8 := ⟨by decide +kernel, rfl⟩
theorem dX4_get_8 : zD cX4_get 8 (.iload_n 2) 1 9 := ⟨by decide +kernel, rfl⟩
theorem dX4_get_9 : zD cX4_get 9 (.iadd) 1 10 := ⟨by decide +kernel, rfl⟩
theorem dX4_get_10 : zD cX4_get 10 (.iaload) 1 11 := ⟨by decide +kernel, rfl⟩
theorem dX4_get_11 : zD cX4_get 11 (.ireturn) 1 12 := ⟨by decide +kernel, rfl⟩
theorem dX4_lowestBits_0 : zD cX4_lowestBits 0 (.iload_n 0) 1 1 := ⟨by decide +kernel, rfl⟩
theorem dX4_lowestBits_1 : zD cX4_lowestBits 1 (.lookupswitch 33 #[(0, 27), (1, 30)]) 27 28 := ⟨by decide +kernel, rfl⟩
theorem dX4_lowestBits_28 : zD cX4_lowestBits 28 (.iload_n 1) 1 29 := ⟨by decide +kernel, rfl⟩
theorem dX4_lowestBits_29 : zD cX4_lowestBits 29 (.i2b) 1 30 := ⟨by decide +kernel, rfl⟩
theorem dX4_lowestBits_30 : zD cX4_lowestBits 30 (.ireturn) 1 31 := ⟨by decide +kernel, rfl⟩
theorem dX4_lowestBits_31 : zD cX4_lowestBits 31 (.iload_n 1) 1 32 := ⟨by decide +kernel, rfl⟩
theorem dX4_lowestBits_32 : zD cX4_lowestBits 32 (.i2s) 1 33 := ⟨by decide +kernel, rfl⟩
theorem dX4_lowestBits_33 : zD cX4_lowestBits 33 (.ireturn) 1 34 := ⟨by decide +kernel, rfl⟩
theorem dX4_lowestBits_34 : zD cX4_lowestBits 34 (.iload_n 1) 1 35 := ⟨by decide +kernel, rfl⟩
theorem dX4_lowestBits_35 : zD cX4_lowestBits 35 (.ireturn) 1 36 := ⟨by decide +kernel, rfl⟩
theorem dX5_init_0 : zD cX5_init 0 (.aload_n 0) 1 1 := ⟨by decide +kernel, rfl⟩
theorem dX5_init_1 : zD cX5_init 1 (.invokespecial 3) 3 4 := ⟨by decide +kernel, rfl⟩
theorem dX5_init_4 : zD cX5_init 4 (.aload_n 0) 1 5 := ⟨by decide +kernel, rfl⟩
theorem dX5_init_5 : zD cX5_init 5 (.sipush 160) 3 8 := ⟨by decide +kernel, rfl⟩
theorem dX5_init_8 : zD cX5_init 8 (.newarray .byte) 2 10 := ⟨by decide +kernel, rfl⟩
theorem dX5_init_10 : zD cX5_init 10 (.putfield 11) 3 13 := ⟨by decide +kernel, rfl⟩
theorem dX5_init_13 : zD cX5_init 13 (.aload_n 0) 1 14 := ⟨by decide +kernel, rfl⟩
theorem dX5_init_14 : zD cX5_init 14 (.iconst 0) 1 15 := ⟨by decide +kernel, rfl⟩
theorem dX5_init_15 : zD cX5_init 15 (.putfield 15) 3 18 := ⟨by decide +kernel, rfl⟩
theorem dX5_init_18 : zD cX5_init 18 (.aload_n 0) 1 19 := ⟨by decide +kernel, rfl⟩
theorem dX5_init_19 : zD cX5_init 19 (.iconst 0) 1 20 := ⟨by decide +kernel, rfl⟩
theorem dX5_init_20 : zD cX5_init 20 (.putfield 19) 3 23 := ⟨by decide +kernel, rfl⟩
theorem dX5_init_23 : zD cX5_init 23 (.aload_n 0) 1 24 := ⟨by decide +kernel, rfl⟩
theorem dX5_init_24 : zD cX5_init 24 (.iconst 0) 1 25 := ⟨by decide +kernel, rfl⟩
theorem dX5_init_25 : zD cX5_init 25 (.putfield 22) 3 28 := ⟨by decide +kernel, rfl⟩
theorem dX5_init_28 : zD cX5_init 28 (.aload_n 0) 1 29 := ⟨by decide +kernel, rfl⟩
theorem dX5_init_29 : zD cX5_init 29 (.iconst 0) 1 30 := ⟨by decide +kernel, rfl⟩
theorem dX5_init_30 : zD cX5_init 30 (.putfield 25) 3 33 := ⟨by decide +kernel, rfl⟩
theorem dX5_init_33 : zD cX5_init 33 (.aload_n 0) 1 34 := ⟨by decide +kernel, rfl⟩
theorem dX5_init_34 : zD cX5_init 34 (.iconst 0) 1 35 := ⟨by decide +kernel, rfl⟩
theorem dX5_init_35 : zD cX5_init 35 (.putfield 28) 3 38 := ⟨by decide +kernel, rfl⟩
theorem dX5_init_38 : zD cX5_init 38 (.aload_n 0) 1 39 := ⟨by decide +kernel, rfl⟩
theorem dX5_init_39 : zD cX5_init 39 (.iconst 0) 1 40 := ⟨by decide +kernel, rfl⟩
theorem dX5_init_40 : zD cX5_init 40 (.putfield 31) 3 43 := ⟨by decide +kernel, rfl⟩
theorem dX5_init_43 : zD cX5_init 43 (.aload_n 0) 1 44 := ⟨by decide +kernel, rfl⟩
theorem dX5_init_44 : zD cX5_init 44 (.iconst 0) 1 45 := ⟨by decide +kernel, rfl⟩
theorem dX5_init_45 : zD cX5_init 45 (.putfield 34) 3 48 := ⟨by decide +kernel, rfl⟩
theorem dX5_init_48 : zD cX5_init 48 (.aload_n 0) 1 49 := ⟨by decide +kernel, rfl⟩
theorem dX5_init_49 : zD cX5_init 49 (.iconst 0) 1 50 := ⟨by decide +kernel, rfl⟩
theorem dX5_init_50 : zD cX5_init 50 (.putfield 37) 3 53 := ⟨by decide +kernel, rfl⟩
theorem dX5_init_53 : zD cX5_init 53 (.return_) 1 54 := ⟨by decide +kernel, rfl⟩
theorem dX5_append_0 : zD cX5_append 0 (.aload_n 0) 1 1 := ⟨by decide +kernel, rfl⟩
theorem dX5_append_1 : zD cX5_append 1 (.getfield 15) 3 4 := ⟨by decide +kernel, rfl⟩
theorem dX5_append_4 : zD cX5_append 4 (.sipush 160) 3 7 := ⟨by decide +kernel, rfl⟩
theorem dX5_append_7 : zJ cX5_append 7 (fun o => .if_icmp .lt o) 12 10 := ⟨5, by decide +kernel, by decide, rfl⟩
theorem dX5_append_10 : zD cX5_append 10 (.iconst 0) 1 11 := ⟨by decide +kernel, rfl⟩
theorem dX5_append_11 : zD cX5_append 11 (.ireturn) 1 12 := ⟨by decide +kernel, rfl⟩
theorem dX5_append_12 : zD cX5_append 12 (.aload_n 0) 1 13 := ⟨by decide +kernel, rfl⟩
theorem dX5_append_13 : zD cX5_append 13 (.getfield 11) 3 16 := ⟨by decide +kernel, rfl⟩
theorem dX5_append_16 : zD cX5_append 16 (.aload_n 0) 1 17 := ⟨by decide +kernel, rfl⟩
theorem dX5_append_17 : zD cX5_append 17 (.getfield 15) 3 20 := ⟨by decide +kernel, rfl⟩
theorem dX5_append_20 : zD cX5_append 20 (.iload_n 1) 1 21 := ⟨by decide +kernel, rfl⟩
theorem dX5_append_21 : zD cX5_append 21 (.i2b) 1 22 := ⟨by decide +kernel, rfl⟩
theorem dX5_append_22 : zD cX5_append 22 (.bastore) 1 23 := ⟨by decide +kernel, rfl⟩
theorem dX5_append_23 : zD cX5_append 23 (.aload_n 0) 1 24 := ⟨by decide +kernel, rfl⟩
theorem dX5_append_24 : zD cX5_append 24 (.dup) 1 25 := ⟨by decide +kernel, rfl⟩
theorem dX5_append_25 : zD cX5_append 25 (.getfield 15) 3 28 := ⟨by decide +kernel, rfl⟩
theorem dX5_append_28 : zD cX5_append 28 (.iconst 1) 1 29 := ⟨by decide +kernel, rfl⟩
theorem dX5_append_29 : zD cX5_append 29 (.iadd) 1 30 := ⟨by decide +kernel, rfl⟩
theorem dX5_append_30 : zD cX5_append 30 (.putfield 15) 3 33 := ⟨by decide +kernel, rfl⟩
theorem dX5_append_33 : zD cX5_append 33 (.iconst 1) 1 34 := ⟨by decide +kernel, rfl⟩
theorem dX5_append_34 : zD cX5_append 34 (.ireturn) 1 35 := ⟨by decide +kernel, rfl⟩
theorem dX5_tellAll_0 : zD cX5_tellAll 0 (.aload_n 1) 1 1 := ⟨by decide +kernel, rfl⟩
theorem dX5_tellAll_1 : zD cX5_tellAll 1 (.invokevirtual 41) 3 4 := ⟨by decide +kernel, rfl⟩
theorem dX5_tellAll_4 : zD cX5_tellAll 4 (.aload_n 0) 1 5 := ⟨by decide +kernel, rfl⟩
theorem dX5_tellAll_5 : zD cX5_tellAll 5 (.iconst 0) 1 6 := ⟨by decide +kernel, rfl⟩
theorem dX5_tellAll_6 : zD cX5_tellAll 6 (.putfield 19) 3 9 := ⟨by decide +kernel, rfl⟩
theorem dX5_tellAll_9 : zD cX5_tellAll 9 (.aload_n 0) 1 10 := ⟨by decide +kernel, rfl⟩
theorem dX5_tellAll_10 : zD cX5_tellAll 10 (.iconst 0) 1 11 := ⟨by decide +kernel, rfl⟩
theorem dX5_tellAll_11 : zD cX5_tellAll 11 (.putfield 22) 3 14 := ⟨by decide +kernel, rfl⟩
theorem dX5_tellAll_14 : zD cX5_tellAll 14 (.aload_n 0) 1 15 := ⟨by decide +kernel, rfl⟩
theorem dX5_tellAll_15 : zD cX5_tellAll 15 (.iconst 0) 1 16 := ⟨by decide +kernel, rfl⟩
theorem dX5_tellAll_16 : zD cX5_tellAll 16 (.putfield 25) 3 19 := ⟨by decide +kernel, rfl⟩
theorem dX5_tellAll_19 : zD cX5_tellAll 19 (.aload_n 0) 1 20 := ⟨by decide +kernel, rfl⟩
theorem dX5_tellAll_20 : zD cX5_tellAll 20 (.iconst 0) 1 21 := ⟨by decide +kernel, rfl⟩
theorem dX5_tellAll_21 : zD cX5_tellAll 21 (.putfield 37) 3 24 := ⟨by decide +kernel, rfl⟩
theorem dX5_tellAll_24 : zD cX5_tellAll 24 (.aload_n 0) 1 25 := ⟨by decide +kernel, rfl⟩
theorem dX5_tellAll_25 : zD cX5_tellAll 25 (.invokevirtual 46) 3 28 := ⟨by decide +kernel, rfl⟩
theorem dX5_tellAll_28 : zD cX5_tellAll 28 (.iconst 0) 1 29 := ⟨by decide +kernel, rfl⟩
theorem dX5_tellAll_29 : zD cX5_tellAll 29 (.istore_n 2) 1 30 := ⟨by decide +kernel, rfl⟩
theorem dX5_tellAll_30 : zD cX5_tellAll 30 (.iload_n 2) 1 31 := ⟨by decide +kernel, rfl⟩
theorem dX5_tellAll_31 : zD cX5_tellAll 31 (.sipush 160) 3 34 := ⟨by decide +kernel, rfl⟩
theorem dX5_tellAll_34 : zJ cX5_tellAll 34 (fun o => .if_icmp .gt o) 64 37 := ⟨30, by decide +kernel, by decide, rfl⟩
theorem dX5_tellAll_37 : zD cX5_tellAll 37 (.aload_n 0) 1 38 := ⟨by decide +kernel, rfl⟩
theorem dX5_tellAll_38 : zD cX5_tellAll 38 (.getfield 28) 3 41 := ⟨by decide +kernel, rfl⟩
theorem dX5_tellAll_41 : zJ cX5_tellAll 41 (fun o => .ifCond .eq o) 64 44 := ⟨23, by decide +kernel, by decide, rfl⟩
theorem dX5_tellAll_44 : zD cX5_tellAll 44 (.aload_n 0) 1 45 := ⟨by decide +kernel, rfl⟩
theorem dX5_tellAll_45 : zD cX5_tellAll 45 (.aload_n 1) 1 46 := ⟨by decide +kernel, rfl⟩
theorem dX5_tellAll_46 : zD cX5_tellAll 46 (.invokevirtual 49) 3 49 := ⟨by decide +kernel, rfl⟩
theorem dX5_tellAll_49 : zJ cX5_tellAll 49 (fun o => .ifCond .ne o) 54 52 := ⟨5, by decide +kernel, by decide, rfl⟩
theorem dX5_tellAll_52 : zD cX5_tellAll 52 (.iconst (-1)) 1 53 := ⟨by decide +kernel, rfl⟩
theorem dX5_tellAll_53 : zD cX5_tellAll 53 (.ireturn) 1 54 := ⟨by decide +kernel, rfl⟩
theorem dX5_tellAll_54 : zD cX5_tellAll 54 (.iinc 2 1) 3 57 := ⟨by decide +kernel, rfl⟩
theorem dX5_tellAll_57 : zD cX5_tellAll 57 (.aload_n 0) 1 58 := ⟨by decide +kernel, rfl⟩
theorem dX5_tellAll_58 : zD cX5_tellAll 58 (.invokevirtual 46) 3 61 := ⟨by decide +kernel, rfl⟩
theorem dX5_tellAll_61 : zG cX5_tellAll 61 30 := ⟨(-31), by decide +kernel, by decide⟩
theorem dX5_tellAll_64 : zD cX5_tellAll 64 (.iconst 0) 1 65 := ⟨by decide +kernel, rfl⟩
theorem dX5_tellAll_65 : zD cX5_tellAll 65 (.istore_n 3) 1 66 := ⟨by decide +kernel, rfl⟩
theorem dX5_tellAll_66 : zD cX5_tellAll 66 (.iload_n 3) 1 67 := ⟨by decide +kernel, rfl⟩
theorem dX5_tellAll_67 : zD cX5_tellAll 67 (.aload_n 1) 1 68 := ⟨by decide +kernel, rfl⟩
theorem dX5_tellAll_68 : zD cX5_tellAll 68 (.getfield 53) 3 71 := ⟨by decide +kernel, rfl⟩
theorem dX5_tellAll_71 : zJ cX5_tellAll 71 (fun o => .if_icmp .ge o) 106 74 := ⟨35, by decide +kernel, by decide, rfl⟩
theorem dX5_tellAll_74 : zD cX5_tellAll 74 (.aload_n 1) 1 75 := ⟨by decide +kernel, rfl⟩
theorem dX5_tellAll_75 : zD cX5_tellAll 75 (.getfield 56) 3 78 := ⟨by decide +kernel, rfl⟩
theorem dX5_tellAll_78 : zD cX5_tellAll 78 (.iload_n 3) 1 79 := ⟨by decide +kernel, rfl⟩
theorem dX5_tellAll_79 : zD cX5_tellAll 79 (.iaload) 1 80 := ⟨by decide +kernel, rfl⟩
theorem dX5_tellAll_80 : zD cX5_tellAll 80 (.aload_n 1) 1 81 := ⟨by decide +kernel, rfl⟩
theorem dX5_tellAll_81 : zD cX5_tellAll 81 (.getfield 60) 3 84 := ⟨by decide +kernel, rfl⟩
theorem dX5_tellAll_84 : zJ cX5_tellAll 84 (fun o => .if_icmp .lt o) 100 87 := ⟨16, by decide +kernel, by decide, rfl⟩
theorem dX5_tellAll_87 : zD cX5_tellAll 87 (.aload_n 0) 1 88 := ⟨by decide +kernel, rfl⟩
theorem dX5_tellAll_88 : zD cX5_tellAll 88 (.bipush 6) 2 90 := ⟨by decide +kernel, rfl⟩
theorem dX5_tellAll_90 : zD cX5_tellAll 90 (.aload_n 0) 1 91 := ⟨by decide +kernel, rfl⟩
theorem dX5_tellAll_91 : zD cX5_tellAll 91 (.getfield 15) 3 94 := ⟨by decide +kernel, rfl⟩
theorem dX5_tellAll_94 : zD cX5_tellAll 94 (.invokevirtual 63) 3 97 := ⟨by decide +kernel, rfl⟩
theorem dX5_tellAll_97 : zD cX5_tellAll 97 (.pop) 1 98 := ⟨by decide +kernel, rfl⟩
theorem dX5_tellAll_98 : zD cX5_tellAll 98 (.iconst (-1)) 1 99 := ⟨by decide +kernel, rfl⟩
theorem dX5_tellAll_99 : zD cX5_tellAll 99 (.ireturn) 1 100 := ⟨by decide +kernel, rfl⟩
theorem dX5_tellAll_100 : zD cX5_tellAll 100 (.iinc 3 1) 3 103 := ⟨by decide +kernel, rfl⟩
theorem dX5_tellAll_103 : zG cX5_tellAll 103 66 := ⟨(-37), by decide +kernel, by decide⟩
theorem dX5_tellAll_106 : zD cX5_tellAll 106 (.iload_n 2) 1 107 := ⟨by decide +kernel, rfl⟩
theorem dX5_tellAll_107 : zD cX5_tellAll 107 (.ireturn) 1 108 := ⟨by decide +kernel, rfl⟩
theorem dX5_refuse_0 : zD cX5_refuse 0 (.aload_n 0) 1 1 := ⟨by decide +kernel, rfl⟩
theorem dX5_refuse_1 : zD cX5_refuse 1 (.iload_n 1) 1 2 := ⟨by decide +kernel, rfl⟩
theorem dX5_refuse_2 : zD cX5_refuse 2 (.putfield 19) 3 5 := ⟨by decide +kernel, rfl⟩
theorem dX5_refuse_5 : zD cX5_refuse 5 (.aload_n 0) 1 6 := ⟨by decide +kernel, rfl⟩
theorem dX5_refuse_6 : zD cX5_refuse 6 (.iload_n 2) 1 7 := ⟨by decide +kernel, rfl⟩
theorem dX5_refuse_7 : zD cX5_refuse 7 (.putfield 22) 3 10 := ⟨by decide +kernel, rfl⟩
theorem dX5_refuse_10 : zD cX5_refuse 10 (.iconst 0) 1 11 := ⟨by decide +kernel, rfl⟩
theorem dX5_refuse_11 : zD cX5_refuse 11 (.ireturn) 1 12 := ⟨by decide +kernel, rfl⟩
theorem dX5_takeLine_0 : zD cX5_takeLine 0 (.aload_n 0) 1 1 := ⟨by decide +kernel, rfl⟩
theorem dX5_takeLine_1 : zD cX5_takeLine 1 (.iconst 1) 1 2 := ⟨by decide +kernel, rfl⟩
theorem dX5_takeLine_2 : zD cX5_takeLine 2 (.invokevirtual 67) 3 5 := ⟨by decide +kernel, rfl⟩
theorem dX5_takeLine_5 : zJ cX5_takeLine 5 (fun o => .ifCond .ne o) 10 8 := ⟨5, by decide +kernel, by decide, rfl⟩
theorem dX5_takeLine_8 : zD cX5_takeLine 8 (.iconst 0) 1 9 := ⟨by decide +kernel, rfl⟩
theorem dX5_takeLine_9 : zD cX5_takeLine 9 (.ireturn) 1 10 := ⟨by decide +kernel, rfl⟩
theorem dX5_takeLine_10 : zD cX5_takeLine 10 (.aload_n 0) 1 11 := ⟨by decide +kernel, rfl⟩
theorem dX5_takeLine_11 : zD cX5_takeLine 11 (.invokevirtual 71) 3 14 := ⟨by decide +kernel, rfl⟩
theorem dX5_takeLine_14 : zD cX5_takeLine 14 (.istore_n 2) 1 15 := ⟨by decide +kernel, rfl⟩
theorem dX5_takeLine_15 : zD cX5_takeLine 15 (.iload_n 2) 1 16 := ⟨by decide +kernel, rfl⟩
theorem dX5_takeLine_16 : zD cX5_takeLine 16 (.tableswitch 50 4 6 #[44, 38, 28]) 28 44 := ⟨by decide +kernel, rfl⟩
theorem dX5_takeLine_44 : zD cX5_takeLine 44 (.aload_n 0) 1 45 := ⟨by decide +kernel, rfl⟩
theorem dX5_takeLine_45 : zD cX5_takeLine 45 (.iconst 2) 1 46 := ⟨by decide +kernel, rfl⟩
theorem dX5_takeLine_46 : zD cX5_takeLine 46 (.aload_n 0) 1 47 := ⟨by decide +kernel, rfl⟩
theorem dX5_takeLine_47 : zD cX5_takeLine 47 (.getfield 31) 3 50 := ⟨by decide +kernel, rfl⟩
theorem dX5_takeLine_50 : zD cX5_takeLine 50 (.invokevirtual 63) 3 53 := ⟨by decide +kernel, rfl⟩
theorem dX5_takeLine_53 : zD cX5_takeLine 53 (.ireturn) 1 54 := ⟨by decide +kernel, rfl⟩
theorem dX5_takeLine_54 : zD cX5_takeLine 54 (.aload_n 0) 1 55 := ⟨by decide +kernel, rfl⟩
theorem dX5_takeLine_55 : zD cX5_takeLine 55 (.aload_n 1) 1 56 := ⟨by decide +kernel, rfl⟩
theorem dX5_takeLine_56 : zD cX5_takeLine 56 (.invokevirtual 75) 3 59 := ⟨by decide +kernel, rfl⟩
theorem dX5_takeLine_59 : zD cX5_takeLine 59 (.ireturn) 1 60 := ⟨by decide +kernel, rfl⟩
theorem dX5_takeLine_60 : zD cX5_takeLine 60 (.aload_n 0) 1 61 := ⟨by decide +kernel, rfl⟩
theorem dX5_takeLine_61 : zD cX5_takeLine 61 (.aload_n 1) 1 62 := ⟨by decide +kernel, rfl⟩
theorem dX5_takeLine_62 : zD cX5_takeLine 62 (.invokevirtual 78) 3 65 := ⟨by decide +kernel, rfl⟩
theorem dX5_takeLine_65 : zD cX5_takeLine 65 (.ireturn) 1 66 := ⟨by decide +kernel, rfl⟩
theorem dX5_takeLine_66 : zD cX5_takeLine 66 (.aload_n 0) 1 67 := ⟨by decide +kernel, rfl⟩
theorem dX5_takeLine_67 : zD cX5_takeLine 67 (.aload_n 1) 1 68 := ⟨by decide +kernel, rfl⟩
theorem dX5_takeLine_68 : zD cX5_takeLine 68 (.iload_n 2) 1 69 := ⟨by decide +kernel, rfl⟩
theorem dX5_takeLine_69 : zD cX5_takeLine 69 (.invokevirtual 81) 3 72 := ⟨by decide +kernel, rfl⟩
theorem dX5_takeLine_72 : zD cX5_takeLine 72 (.ireturn) 1 73 := ⟨by decide +kernel, rfl⟩
theorem dX5_takeField_0 : zD cX5_takeField 0 (.aload_n 1) 1 1 := ⟨by decide +kernel, rfl⟩
theorem dX5_takeField_1 : zD cX5_takeField 1 (.getfield 60) 3 4 := ⟨by decide +kernel, rfl⟩
theorem dX5_takeField_4 : zD cX5_takeField 4 (.bipush 6) 2 6 := ⟨by decide +kernel, rfl⟩
theorem dX5_takeField_6 : zJ cX5_takeField 6 (fun o => .if_icmp .lt o) 19 9 := ⟨13, by decide +kernel, by decide, rfl⟩
theorem dX5_takeField_9 : zD cX5_takeField 9 (.aload_n 0) 1 10 := ⟨by decide +kernel, rfl⟩
theorem dX5_takeField_10 : zD cX5_takeField 10 (.iconst 5) 1 11 := ⟨by decide +kernel, rfl⟩
theorem dX5_takeField_11 : zD cX5_takeField 11 (.aload_n 0) 1 12 := ⟨by decide +kernel, rfl⟩
theorem dX5_takeField_12 : zD cX5_takeField 12 (.getfield 31) 3 15 := ⟨by decide +kernel, rfl⟩
theorem dX5_takeField_15 : zD cX5_takeField 15 (.invokevirtual 63) 3 18 := ⟨by decide +kernel, rfl⟩
theorem dX5_takeField_18 : zD cX5_takeField 18 (.ireturn) 1 19 := ⟨by decide +kernel, rfl⟩
theorem dX5_takeField_19 : zD cX5_takeField 19 (.aload_n 0) 1 20 := ⟨by decide +kernel, rfl⟩
theorem dX5_takeField_20 : zD cX5_takeField 20 (.iconst 0) 1 21 := ⟨by decide +kernel, rfl⟩
theorem dX5_takeField_21 : zD cX5_takeField 21 (.bipush 99) 2 23 := ⟨by decide +kernel, rfl⟩
theorem dX5_takeField_23 : zD cX5_takeField 23 (.invokevirtual 85) 3 26 := ⟨by decide +kernel, rfl⟩
theorem dX5_takeField_26 : zJ cX5_takeField 26 (fun o => .ifCond .ne o) 31 29 := ⟨5, by decide +kernel, by decide, rfl⟩
theorem dX5_takeField_29 : zD cX5_takeField 29 (.iconst 0) 1 30 := ⟨by decide +kernel, rfl⟩
theorem dX5_takeField_30 : zD cX5_takeField 30 (.ireturn) 1 31 := ⟨by decide +kernel, rfl⟩
theorem dX5_takeField_31 : zD cX5_takeField 31 (.aload_n 0) 1 32 := ⟨by decide +kernel, rfl⟩
theorem dX5_takeField_32 : zD cX5_takeField 32 (.getfield 34) 3 35 := ⟨by decide +kernel, rfl⟩
theorem dX5_takeField_35 : zD cX5_takeField 35 (.istore_n 3) 1 36 := ⟨by decide +kernel, rfl⟩
theorem dX5_takeField_36 : zD cX5_takeField 36 (.aload_n 0) 1 37 := ⟨by decide +kernel, rfl⟩
theorem dX5_takeField_37 : zD cX5_takeField 37 (.iconst 0) 1 38 := ⟨by decide +kernel, rfl⟩
theorem dX5_takeField_38 : zD cX5_takeField 38 (.bipush 9) 2 40 := ⟨by decide +kernel, rfl⟩
theorem dX5_takeField_40 : zD cX5_takeField 40 (.invokevirtual 85) 3 43 := ⟨by decide +kernel, rfl⟩
theorem dX5_takeField_43 : zJ cX5_takeField 43 (fun o => .ifCond .ne o) 48 46 := ⟨5, by decide +kernel, by decide, rfl⟩
theorem dX5_takeField_46 : zD cX5_takeField 46 (.iconst 0) 1 47 := ⟨by decide +kernel, rfl⟩
theorem dX5_takeField_47 : zD cX5_takeField 47 (.ireturn) 1 48 := ⟨by decide +kernel, rfl⟩
theorem dX5_takeField_48 : zD cX5_takeField 48 (.aload_n 0) 1 49 := ⟨by decide +kernel, rfl⟩
theorem dX5_takeField_49 : zD cX5_takeField 49 (.invokevirtual 88) 3 52 := ⟨by decide +kernel, rfl⟩
theorem dX5_takeField_52 : zJ cX5_takeField 52 (fun o => .ifCond .eq o) 72 55 := ⟨20, by decide +kernel, by decide, rfl⟩
theorem dX5_takeField_55 : zD cX5_takeField 55 (.aload_n 1) 1 56 := ⟨by decide +kernel, rfl⟩
theorem dX5_takeField_56 : zD cX5_takeField 56 (.iload_n 2) 1 57 := ⟨by decide +kernel, rfl⟩
theorem dX5_takeField_57 : zD cX5_takeField 57 (.iload_n 3) 1 58 := ⟨by decide +kernel, rfl⟩
theorem dX5_takeField_58 : zD cX5_takeField 58 (.aload_n 0) 1 59 := ⟨by decide +kernel, rfl⟩
theorem dX5_takeField_59 : zD cX5_takeField 59 (.getfield 34) 3 62 := ⟨by decide +kernel, rfl⟩
theorem dX5_takeField_62 : zD cX5_takeField 62 (.invokevirtual 92) 3 65 := ⟨by decide +kernel, rfl⟩
theorem dX5_takeField_65 : zJ cX5_takeField 65 (fun o => .ifCond .eq o) 72 68 := ⟨7, by decide +kernel, by decide, rfl⟩
theorem dX5_takeField_68 : zD cX5_takeField 68 (.iconst 1) 1 69 := ⟨by decide +kernel, rfl⟩
theorem dX5_takeField_69 : zG cX5_takeField 69 73 := ⟨4, by decide +kernel, by decide⟩
theorem dX5_takeField_72 : zD cX5_takeField 72 (.iconst 0) 1 73 := ⟨by decide +kernel, rfl⟩
theorem dX5_takeField_73 : zD cX5_takeField 73 (.ireturn) 1 74 := ⟨by decide +kernel, rfl⟩
theorem dX5_takeBand_0 : zD cX5_takeBand 0 (.aload_n 1) 1 1 := ⟨by decide +kernel, rfl⟩
theorem dX5_takeBand_1 : zD cX5_takeBand 1 (.getfield 53) 3 4 := ⟨by decide +kernel, rfl⟩
theorem dX5_takeBand_4 : zD cX5_takeBand 4 (.iconst 4) 1 5 := ⟨by decide +kernel, rfl⟩
theorem dX5_takeBand_5 : zJ cX5_takeBand 5 (fun o => .if_icmp .lt o) 18 8 := ⟨13, by decide +kernel, by decide, rfl⟩
theorem dX5_takeBand_8 : zD cX5_takeBand 8 (.aload_n 0) 1 9 := ⟨by decide +kernel, rfl⟩
theorem dX5_takeBand_9 : zD cX5_takeBand 9 (.iconst 5) 1 10 := ⟨by decide +kernel, rfl⟩
theorem dX5_takeBand_10 : zD cX5_takeBand 10 (.aload_n 0) 1 11 := ⟨by decide +kernel, rfl⟩
theorem dX5_takeBand_11 : zD cX5_takeBand 11 (.getfield 31) 3 14 := ⟨by decide +kernel, rfl⟩
theorem dX5_takeBand_14 : zD cX5_takeBand 14 (.invokevirtual 63) 3 17 := ⟨by decide +kernel, rfl⟩
theorem dX5_takeBand_17 : zD cX5_takeBand 17 (.ireturn) 1 18 := ⟨by decide +kernel, rfl⟩
theorem dX5_takeBand_18 : zD cX5_takeBand 18 (.aload_n 0) 1 19 := ⟨by decide +kernel, rfl⟩
theorem dX5_takeBand_19 : zD cX5_takeBand 19 (.iconst 0) 1 20 := ⟨by decide +kernel, rfl⟩
theorem dX5_takeBand_20 : zD cX5_takeBand 20 (.iconst 5) 1 21 := ⟨by decide +kernel, rfl⟩
theorem dX5_takeBand_21 : zD cX5_takeBand 21 (.invokevirtual 85) 3 24 := ⟨by decide +kernel, rfl⟩
theorem dX5_takeBand_24 : zJ cX5_takeBand 24 (fun o => .ifCond .ne o) 29 27 := ⟨5, by decide +kernel, by decide, rfl⟩
theorem dX5_takeBand_27 : zD cX5_takeBand 27 (.iconst 0) 1 28 := ⟨by decide +kernel, rfl⟩
theorem dX5_takeBand_28 : zD cX5_takeBand 28 (.ireturn) 1 29 := ⟨by decide +kernel, rfl⟩
theorem dX5_takeBand_29 : zD cX5_takeBand 29 (.aload_n 0) 1 30 := ⟨by decide +kernel, rfl⟩
theorem dX5_takeBand_30 : zD cX5_takeBand 30 (.getfield 34) 3 33 := ⟨by decide +kernel, rfl⟩
theorem dX5_takeBand_33 : zD cX5_takeBand 33 (.istore_n 2) 1 34 := ⟨by decide +kernel, rfl⟩
theorem dX5_takeBand_34 : zD cX5_takeBand 34 (.aload_n 0) 1 35 := ⟨by decide +kernel, rfl⟩
theorem dX5_takeBand_35 : zD cX5_takeBand 35 (.iconst 1) 1 36 := ⟨by decide +kernel, rfl⟩
theorem dX5_takeBand_36 : zD cX5_takeBand 36 (.bipush 9) 2 38 := ⟨by decide +kernel, rfl⟩
theorem dX5_takeBand_38 : zD cX5_takeBand 38 (.invokevirtual 85) 3 41 := ⟨by decide +kernel, rfl⟩
theorem dX5_takeBand_41 : zJ cX5_takeBand 41 (fun o => .ifCond .ne o) 46 44 := ⟨5, by decide +kernel, by decide, rfl⟩
theorem dX5_takeBand_44 : zD cX5_takeBand 44 (.iconst 0) 1 45 := ⟨by decide +kernel, rfl⟩
theorem dX5_takeBand_45 : zD cX5_takeBand 45 (.ireturn) 1 46 := ⟨by decide +kernel, rfl⟩
theorem dX5_takeBand_46 : zD cX5_takeBand 46 (.aload_n 0) 1 47 := ⟨by decide +kernel, rfl⟩
theorem dX5_takeBand_47 : zD cX5_takeBand 47 (.invokevirtual 88) 3 50 := ⟨by decide +kernel, rfl⟩
theorem dX5_takeBand_50 : zJ cX5_takeBand 50 (fun o => .ifCond .eq o) 69 53 := ⟨19, by decide +kernel, by decide, rfl⟩
theorem dX5_takeBand_53 : zD cX5_takeBand 53 (.aload_n 1) 1 54 := ⟨by decide +kernel, rfl⟩
theorem dX5_takeBand_54 : zD cX5_takeBand 54 (.iload_n 2) 1 55 := ⟨by decide +kernel, rfl⟩
theorem dX5_takeBand_55 : zD cX5_takeBand 55 (.aload_n 0) 1 56 := ⟨by decide +kernel, rfl⟩
theorem dX5_takeBand_56 : zD cX5_takeBand 56 (.getfield 34) 3 59 := ⟨by decide +kernel, rfl⟩
theorem dX5_takeBand_59 : zD cX5_takeBand 59 (.invokevirtual 96) 3 62 := ⟨by decide +kernel, rfl⟩
theorem dX5_takeBand_62 : zJ cX5_takeBand 62 (fun o => .ifCond .eq o) 69 65 := ⟨7, by decide +kernel, by decide, rfl⟩
theorem dX5_takeBand_65 : zD cX5_takeBand 65 (.iconst 1) 1 66 := ⟨by decide +kernel, rfl⟩
theorem dX5_takeBand_66 : zG cX5_takeBand 66 70 := ⟨4, by decide +kernel, by decide⟩
theorem dX5_takeBand_69 : zD cX5_takeBand 69 (.iconst 0) 1 70 := ⟨by decide +kernel, rfl⟩
theorem dX5_takeBand_70 : zD cX5_takeBand 70 (.ireturn) 1 71 := ⟨by decide +kernel, rfl⟩
theorem dX5_takeGlut_0 : zD cX5_takeGlut 0 (.aload_n 0) 1 1 := ⟨by decide +kernel, rfl⟩
theorem dX5_takeGlut_1 : zD cX5_takeGlut 1 (.getfield 37) 3 4 := ⟨by decide +kernel, rfl⟩
theorem dX5_takeGlut_4 : zJ cX5_takeGlut 4 (fun o => .ifCond .eq o) 17 7 := ⟨13, by decide +kernel, by decide, rfl⟩
theorem dX5_takeGlut_7 : zD cX5_takeGlut 7 (.aload_n 0) 1 8 := ⟨by decide +kernel, rfl⟩
theorem dX5_takeGlut_8 : zD cX5_takeGlut 8 (.iconst 4) 1 9 := ⟨by decide +kernel, rfl⟩
theorem dX5_takeGlut_9 : zD cX5_takeGlut 9 (.aload_n 0) 1 10 := ⟨by decide +kernel, rfl⟩
theorem dX5_takeGlut_10 : zD cX5_takeGlut 10 (.getfield 31) 3 13 := ⟨by decide +kernel, rfl⟩
theorem dX5_takeGlut_13 : zD cX5_takeGlut 13 (.invokevirtual 63) 3 16 := ⟨by decide +kernel, rfl⟩
theorem dX5_takeGlut_16 : zD cX5_takeGlut 16 (.ireturn) 1 17 := ⟨by decide +kernel, rfl⟩
theorem dX5_takeGlut_17 : zD cX5_takeGlut 17 (.aload_n 0) 1 18 := ⟨by decide +kernel, rfl⟩
theorem dX5_takeGlut_18 : zD cX5_takeGlut 18 (.iconst 1) 1 19 := ⟨by decide +kernel, rfl⟩
theorem dX5_takeGlut_19 : zD cX5_takeGlut 19 (.bipush 99) 2 21 := ⟨by decide +kernel, rfl⟩
theorem dX5_takeGlut_21 : zD cX5_takeGlut 21 (.invokevirtual 85) 3 24 := ⟨by decide +kernel, rfl⟩
theorem dX5_takeGlut_24 : zJ cX5_takeGlut 24 (fun o => .ifCond .ne o) 29 27 := ⟨5, by decide +kernel, by decide, rfl⟩
theorem dX5_takeGlut_27 : zD cX5_takeGlut 27 (.iconst 0) 1 28 := ⟨by decide +kernel, rfl⟩
theorem dX5_takeGlut_28 : zD cX5_takeGlut 28 (.ireturn) 1 29 := ⟨by decide +kernel, rfl⟩
theorem dX5_takeGlut_29 : zD cX5_takeGlut 29 (.aload_n 0) 1 30 := ⟨by decide +kernel, rfl⟩
theorem dX5_takeGlut_30 : zD cX5_takeGlut 30 (.iconst 1) 1 31 := ⟨by decide +kernel, rfl⟩
theorem dX5_takeGlut_31 : zD cX5_takeGlut 31 (.putfield 37) 3 34 := ⟨by decide +kernel, rfl⟩
theorem dX5_takeGlut_34 : zD cX5_takeGlut 34 (.aload_n 1) 1 35 := ⟨by decide +kernel, rfl⟩
theorem dX5_takeGlut_35 : zD cX5_takeGlut 35 (.aload_n 0) 1 36 := ⟨by decide +kernel, rfl⟩
theorem dX5_takeGlut_36 : zD cX5_takeGlut 36 (.getfield 34) 3 39 := ⟨by decide +kernel, rfl⟩
theorem dX5_takeGlut_39 : zD cX5_takeGlut 39 (.putfield 99) 3 42 := ⟨by decide +kernel, rfl⟩
theorem dX5_takeGlut_42 : zD cX5_takeGlut 42 (.aload_n 0) 1 43 := ⟨by decide +kernel, rfl⟩
theorem dX5_takeGlut_43 : zD cX5_takeGlut 43 (.invokevirtual 88) 3 46 := ⟨by decide +kernel, rfl⟩
theorem dX5_takeGlut_46 : zD cX5_takeGlut 46 (.ireturn) 1 47 := ⟨by decide +kernel, rfl⟩
theorem dX5_takeNumber_0 : zD cX5_takeNumber 0 (.aload_n 0) 1 1 := ⟨by decide +kernel, rfl⟩
theorem dX5_takeNumber_1 : zD cX5_takeNumber 1 (.invokevirtual 46) 3 4 := ⟨by decide +kernel, rfl⟩
theorem dX5_takeNumber_4 : zD cX5_takeNumber 4 (.aload_n 0) 1 5 := ⟨by decide +kernel, rfl⟩
theorem dX5_takeNumber_5 : zD cX5_takeNumber 5 (.iconst 2) 1 6 := ⟨by decide +kernel, rfl⟩
theorem dX5_takeNumber_6 : zD cX5_takeNumber 6 (.invokevirtual 67) 3 9 := ⟨by decide +kernel, rfl⟩
theorem dX5_takeNumber_9 : zJ cX5_takeNumber 9 (fun o => .ifCond .ne o) 14 12 := ⟨5, by decide +kernel, by decide, rfl⟩
theorem dX5_takeNumber_12 : zD cX5_takeNumber 12 (.iconst 0) 1 13 := ⟨by decide +kernel, rfl⟩
theorem dX5_takeNumber_13 : zD cX5_takeNumber 13 (.ireturn) 1 14 := ⟨by decide +kernel, rfl⟩
theorem dX5_takeNumber_14 : zD cX5_takeNumber 14 (.aload_n 0) 1 15 := ⟨by decide +kernel, rfl⟩
theorem dX5_takeNumber_15 : zD cX5_takeNumber 15 (.getfield 34) 3 18 := ⟨by decide +kernel, rfl⟩
theorem dX5_takeNumber_18 : zD cX5_takeNumber 18 (.iload_n 1) 1 19 := ⟨by decide +kernel, rfl⟩
theorem dX5_takeNumber_19 : zD cX5_takeNumber 19 (.iload_n 2) 1 20 := ⟨by decide +kernel, rfl⟩
theorem dX5_takeNumber_20 : zD cX5_takeNumber 20 (.invokestatic 102) 3 23 := ⟨by decide +kernel, rfl⟩
theorem dX5_takeNumber_23 : zJ cX5_takeNumber 23 (fun o => .ifCond .ne o) 38 26 := ⟨15, by decide +kernel, by decide, rfl⟩
theorem dX5_takeNumber_26 : zD cX5_takeNumber 26 (.aload_n 0) 1 27 := ⟨by decide +kernel, rfl⟩
theorem dX5_takeNumber_27 : zD cX5_takeNumber 27 (.iconst 3) 1 28 := ⟨by decide +kernel, rfl⟩
theorem dX5_takeNumber_28 : zD cX5_takeNumber 28 (.aload_n 0) 1 29 := ⟨by decide +kernel, rfl⟩
theorem dX5_takeNumber_29 : zD cX5_takeNumber 29 (.getfield 31) 3 32 := ⟨by decide +kernel, rfl⟩
theorem dX5_takeNumber_32 : zD cX5_takeNumber 32 (.invokevirtual 63) 3 35 := ⟨by decide +kernel, rfl⟩
theorem dX5_takeNumber_35 : zJ cX5_takeNumber 35 (fun o => .ifCond .eq o) 42 38 := ⟨7, by decide +kernel, by decide, rfl⟩
theorem dX5_takeNumber_38 : zD cX5_takeNumber 38 (.iconst 1) 1 39 := ⟨by decide +kernel, rfl⟩
theorem dX5_takeNumber_39 : zG cX5_takeNumber 39 43 := ⟨4, by decide +kernel, by decide⟩
theorem dX5_takeNumber_42 : zD cX5_takeNumber 42 (.iconst 0) 1 43 := ⟨by decide +kernel, rfl⟩
theorem dX5_takeNumber_43 : zD cX5_takeNumber 43 (.ireturn) 1 44 := ⟨by decide +kernel, rfl⟩
theorem dX5_takeSemicolon_0 : zD cX5_takeSemicolon 0 (.aload_n 0) 1 1 := ⟨by decide +kernel, rfl⟩
theorem dX5_takeSemicolon_1 : zD cX5_takeSemicolon 1 (.invokevirtual 46) 3 4 := ⟨by decide +kernel, rfl⟩
theorem dX5_takeSemicolon_4 : zD cX5_takeSemicolon 4 (.aload_n 0) 1 5 := ⟨by decide +kernel, rfl⟩
theorem dX5_takeSemicolon_5 : zD cX5_takeSemicolon 5 (.iconst 3) 1 6 := ⟨by decide +kernel, rfl⟩
theorem dX5_takeSemicolon_6 : zD cX5_takeSemicolon 6 (.invokevirtual 67) 3 9 := ⟨by decide +kernel, rfl⟩
theorem dX5_takeSemicolon_9 : zD cX5_takeSemicolon 9 (.ireturn) 1 10 := ⟨by decide +kernel, rfl⟩
theorem dX5_isToken_0 : zD cX5_isToken 0 (.aload_n 0) 1 1 := ⟨by decide +kernel, rfl⟩
theorem dX5_isToken_1 : zD cX5_isToken 1 (.getfield 28) 3 4 := ⟨by decide +kernel, rfl⟩
theorem dX5_isToken_4 : zD cX5_isToken 4 (.iconst 4) 1 5 := ⟨by decide +kernel, rfl⟩
theorem dX5_isToken_5 : zJ cX5_isToken 5 (fun o => .if_icmp .ne o) 18 8 := ⟨13, by decide +kernel, by decide, rfl⟩
theorem dX5_isToken_8 : zD cX5_isToken 8 (.aload_n 0) 1 9 := ⟨by decide +kernel, rfl⟩
theorem dX5_isToken_9 : zD cX5_isToken 9 (.iconst 1) 1 10 := ⟨by decide +kernel, rfl⟩
theorem dX5_isToken_10 : zD cX5_isToken 10 (.aload_n 0) 1 11 := ⟨by decide +kernel, rfl⟩
theorem dX5_isToken_11 : zD cX5_isToken 11 (.getfield 31) 3 14 := ⟨by decide +kernel, rfl⟩
theorem dX5_isToken_14 : zD cX5_isToken 14 (.invokevirtual 63) 3 17 := ⟨by decide +kernel, rfl⟩
theorem dX5_isToken_17 : zD cX5_isToken 17 (.ireturn) 1 18 := ⟨by decide +kernel, rfl⟩
theorem dX5_isToken_18 : zD cX5_isToken 18 (.aload_n 0) 1 19 := ⟨by decide +kernel, rfl⟩
theorem dX5_isToken_19 : zD cX5_isToken 19 (.getfield 28) 3 22 := ⟨by decide +kernel, rfl⟩
theorem dX5_isToken_22 : zD cX5_isToken 22 (.iload_n 1) 1 23 := ⟨by decide +kernel, rfl⟩
theorem dX5_isToken_23 : zJ cX5_isToken 23 (fun o => .if_icmp .eq o) 38 26 := ⟨15, by decide +kernel, by decide, rfl⟩
theorem dX5_isToken_26 : zD cX5_isToken 26 (.aload_n 0) 1 27 := ⟨by decide +kernel, rfl⟩
theorem dX5_isToken_27 : zD cX5_isToken 27 (.iconst 2) 1 28 := ⟨by decide +kernel, rfl⟩
theorem dX5_isToken_28 : zD cX5_isToken 28 (.aload_n 0) 1 29 := ⟨by decide +kernel, rfl⟩
theorem dX5_isToken_29 : zD cX5_isToken 29 (.getfield 31) 3 32 := ⟨by decide +kernel, rfl⟩
theorem dX5_isToken_32 : zD cX5_isToken 32 (.invokevirtual 63) 3 35 := ⟨by decide +kernel, rfl⟩
theorem dX5_isToken_35 : zJ cX5_isToken 35 (fun o => .ifCond .eq o) 42 38 := ⟨7, by decide +kernel, by decide, rfl⟩
theorem dX5_isToken_38 : zD cX5_isToken 38 (.iconst 1) 1 39 := ⟨by decide +kernel, rfl⟩
theorem dX5_isToken_39 : zG cX5_isToken 39 43 := ⟨4, by decide +kernel, by decide⟩
theorem dX5_isToken_42 : zD cX5_isToken 42 (.iconst 0) 1 43 := ⟨by decide +kernel, rfl⟩
theorem dX5_isToken_43 : zD cX5_isToken 43 (.ireturn) 1 44 := ⟨by decide +kernel, rfl⟩
theorem dX5_nextToken_0 : zD cX5_nextToken 0 (.aload_n 0) 1 1 := ⟨by decide +kernel, rfl⟩
theorem dX5_nextToken_1 : zD cX5_nextToken 1 (.getfield 25) 3 4 := ⟨by decide +kernel, rfl⟩
theorem dX5_nextToken_4 : zD cX5_nextToken 4 (.aload_n 0) 1 5 := ⟨by decide +kernel, rfl⟩
theorem dX5_nextToken_5 : zD cX5_nextToken 5 (.getfield 15) 3 8 := ⟨by decide +kernel, rfl⟩
theorem dX5_nextToken_8 : zJ cX5_nextToken 8 (fun o => .if_icmp .ge o) 38 11 := ⟨30, by decide +kernel, by decide, rfl⟩
theorem dX5_nextToken_11 : zD cX5_nextToken 11 (.aload_n 0) 1 12 := ⟨by decide +kernel, rfl⟩
theorem dX5_nextToken_12 : zD cX5_nextToken 12 (.getfield 11) 3 15 := ⟨by decide +kernel, rfl⟩
theorem dX5_nextToken_15 : zD cX5_nextToken 15 (.aload_n 0) 1 16 := ⟨by decide +kernel, rfl⟩
theorem dX5_nextToken_16 : zD cX5_nextToken 16 (.getfield 25) 3 19 := ⟨by decide +kernel, rfl⟩
theorem dX5_nextToken_19 : zD cX5_nextToken 19 (.baload) 1 20 := ⟨by decide +kernel, rfl⟩
theorem dX5_nextToken_20 : zD cX5_nextToken 20 (.bipush 32) 2 22 := ⟨by decide +kernel, rfl⟩
theorem dX5_nextToken_22 : zJ cX5_nextToken 22 (fun o => .if_icmp .ne o) 38 25 := ⟨16, by decide +kernel, by decide, rfl⟩
theorem dX5_nextToken_25 : zD cX5_nextToken 25 (.aload_n 0) 1 26 := ⟨by decide +kernel, rfl⟩
theorem dX5_nextToken_26 : zD cX5_nextToken 26 (.dup) 1 27 := ⟨by decide +kernel, rfl⟩
theorem dX5_nextToken_27 : zD cX5_nextToken 27 (.getfield 25) 3 30 := ⟨by decide +kernel, rfl⟩
theorem dX5_nextToken_30 : zD cX5_nextToken 30 (.iconst 1) 1 31 := ⟨by decide +kernel, rfl⟩
theorem dX5_nextToken_31 : zD cX5_nextToken 31 (.iadd) 1 32 := ⟨by decide +kernel, rfl⟩
theorem dX5_nextToken_32 : zD cX5_nextToken 32 (.putfield 25) 3 35 := ⟨by decide +kernel, rfl⟩
theorem dX5_nextToken_35 : zG cX5_nextToken 35 0 := ⟨(-35), by decide +kernel, by decide⟩
theorem dX5_nextToken_38 : zD cX5_nextToken 38 (.aload_n 0) 1 39 := ⟨by decide +kernel, rfl⟩
theorem dX5_nextToken_39 : zD cX5_nextToken 39 (.aload_n 0) 1 40 := ⟨by decide +kernel, rfl⟩
theorem dX5_nextToken_40 : zD cX5_nextToken 40 (.getfield 25) 3 43 := ⟨by decide +kernel, rfl⟩
theorem dX5_nextToken_43 : zD cX5_nextToken 43 (.putfield 31) 3 46 := ⟨by decide +kernel, rfl⟩
theorem dX5_nextToken_46 : zD cX5_nextToken 46 (.aload_n 0) 1 47 := ⟨by decide +kernel, rfl⟩
theorem dX5_nextToken_47 : zD cX5_nextToken 47 (.getfield 25) 3 50 := ⟨by decide +kernel, rfl⟩
theorem dX5_nextToken_50 : zD cX5_nextToken 50 (.aload_n 0) 1 51 := ⟨by decide +kernel, rfl⟩
theorem dX5_nextToken_51 : zD cX5_nextToken 51 (.getfield 15) 3 54 := ⟨by decide +kernel, rfl⟩
theorem dX5_nextToken_54 : zJ cX5_nextToken 54 (fun o => .if_icmp .lt o) 63 57 := ⟨9, by decide +kernel, by decide, rfl⟩
theorem dX5_nextToken_57 : zD cX5_nextToken 57 (.aload_n 0) 1 58 := ⟨by decide +kernel, rfl⟩
theorem dX5_nextToken_58 : zD cX5_nextToken 58 (.iconst 0) 1 59 := ⟨by decide +kernel, rfl⟩
theorem dX5_nextToken_59 : zD cX5_nextToken 59 (.putfield 28) 3 62 := ⟨by decide +kernel, rfl⟩
theorem dX5_nextToken_62 : zD cX5_nextToken 62 (.return_) 1 63 := ⟨by decide +kernel, rfl⟩
theorem dX5_nextToken_63 : zD cX5_nextToken 63 (.aload_n 0) 1 64 := ⟨by decide +kernel, rfl⟩
theorem dX5_nextToken_64 : zD cX5_nextToken 64 (.bipush 97) 2 66 := ⟨by decide +kernel, rfl⟩
theorem dX5_nextToken_66 : zD cX5_nextToken 66 (.bipush 122) 2 68 := ⟨by decide +kernel, rfl⟩
theorem dX5_nextToken_68 : zD cX5_nextToken 68 (.invokevirtual 105) 3 71 := ⟨by decide +kernel, rfl⟩
theorem dX5_nextToken_71 : zD cX5_nextToken 71 (.istore_n 1) 1 72 := ⟨by decide +kernel, rfl⟩
theorem dX5_nextToken_72 : zD cX5_nextToken 72 (.aload_n 0) 1 73 := ⟨by decide +kernel, rfl⟩
theorem dX5_nextToken_73 : zD cX5_nextToken 73 (.bipush 48) 2 75 := ⟨by decide +kernel, rfl⟩
theorem dX5_nextToken_75 : zD cX5_nextToken 75 (.bipush 57) 2 77 := ⟨by decide +kernel, rfl⟩
theorem dX5_nextToken_77 : zD cX5_nextToken 77 (.invokevirtual 105) 3 80 := ⟨by decide +kernel, rfl⟩
theorem dX5_nextToken_80 : zD cX5_nextToken 80 (.istore_n 2) 1 81 := ⟨by decide +kernel, rfl⟩
theorem dX5_nextToken_81 : zD cX5_nextToken 81 (.iload_n 1) 1 82 := ⟨by decide +kernel, rfl⟩
theorem dX5_nextToken_82 : zJ cX5_nextToken 82 (fun o => .ifCond .le o) 93 85 := ⟨11, by decide +kernel, by decide, rfl⟩
theorem dX5_nextToken_85 : zD cX5_nextToken 85 (.aload_n 0) 1 86 := ⟨by decide +kernel, rfl⟩
theorem dX5_nextToken_86 : zD cX5_nextToken 86 (.iconst 1) 1 87 := ⟨by decide +kernel, rfl⟩
theorem dX5_nextToken_87 : zD cX5_nextToken 87 (.putfield 28) 3 90 := ⟨by decide +kernel, rfl⟩
theorem dX5_nextToken_90 : zG cX5_nextToken 90 128 := ⟨38, by decide +kernel, by decide⟩
theorem dX5_nextToken_93 : zD cX5_nextToken 93 (.iload_n 2) 1 94 := ⟨by decide +kernel, rfl⟩
theorem dX5_nextToken_94 : zJ cX5_nextToken 94 (fun o => .ifCond .le o) 105 97 := ⟨11, by decide +kernel, by decide, rfl⟩
theorem dX5_nextToken_97 : zD cX5_nextToken 97 (.aload_n 0) 1 98 := ⟨by decide +kernel, rfl⟩
theorem dX5_nextToken_98 : zD cX5_nextToken 98 (.iload_n 2) 1 99 := ⟨by decide +kernel, rfl⟩
theorem dX5_nextToken_99 : zD cX5_nextToken 99 (.invokevirtual 109) 3 102 := ⟨by decide +kernel, rfl⟩
theorem dX5_nextToken_102 : zG cX5_nextToken 102 128 := ⟨26, by decide +kernel, by decide⟩
theorem dX5_nextToken_105 : zD cX5_nextToken 105 (.aload_n 0) 1 106 := ⟨by decide +kernel, rfl⟩
theorem dX5_nextToken_106 : zD cX5_nextToken 106 (.aload_n 0) 1 107 := ⟨by decide +kernel, rfl⟩
theorem dX5_nextToken_107 : zD cX5_nextToken 107 (.getfield 11) 3 110 := ⟨by decide +kernel, rfl⟩
theorem dX5_nextToken_110 : zD cX5_nextToken 110 (.aload_n 0) 1 111 := ⟨by decide +kernel, rfl⟩
theorem dX5_nextToken_111 : zD cX5_nextToken 111 (.getfield 25) 3 114 := ⟨by decide +kernel, rfl⟩
theorem dX5_nextToken_114 : zD cX5_nextToken 114 (.baload) 1 115 := ⟨by decide +kernel, rfl⟩
theorem dX5_nextToken_115 : zD cX5_nextToken 115 (.bipush 59) 2 117 := ⟨by decide +kernel, rfl⟩
theorem dX5_nextToken_117 : zJ cX5_nextToken 117 (fun o => .if_icmp .ne o) 124 120 := ⟨7, by decide +kernel, by decide, rfl⟩
theorem dX5_nextToken_120 : zD cX5_nextToken 120 (.iconst 3) 1 121 := ⟨by decide +kernel, rfl⟩
theorem dX5_nextToken_121 : zG cX5_nextToken 121 125 := ⟨4, by decide +kernel, by decide⟩
theorem dX5_nextToken_124 : zD cX5_nextToken 124 (.iconst 4) 1 125 := ⟨by decide +kernel, rfl⟩
theorem dX5_nextToken_125 : zD cX5_nextToken 125 (.putfield 28) 3 128 := ⟨by decide +kernel, rfl⟩
theorem dX5_nextToken_128 : zD cX5_nextToken 128 (.aload_n 0) 1 129 := ⟨by decide +kernel, rfl⟩
theorem dX5_nextToken_129 : zD cX5_nextToken 129 (.dup) 1 130 := ⟨by decide +kernel, rfl⟩
theorem dX5_nextToken_130 : zD cX5_nextToken 130 (.getfield 25) 3 133 := ⟨by decide +kernel, rfl⟩
theorem dX5_nextToken_133 : zD cX5_nextToken 133 (.iconst 1) 1 134 := ⟨by decide +kernel, rfl⟩
theorem dX5_nextToken_134 : zD cX5_nextToken 134 (.iload_n 1) 1 135 := ⟨by decide +kernel, rfl⟩
theorem dX5_nextToken_135 : zD cX5_nextToken 135 (.iload_n 2) 1 136 := ⟨by decide +kernel, rfl⟩
theorem dX5_nextToken_136 : zD cX5_nextToken 136 (.iadd) 1 137 := ⟨by decide +kernel, rfl⟩
theorem dX5_nextToken_137 : zD cX5_nextToken 137 (.invokestatic 113) 3 140 := ⟨by decide +kernel, rfl⟩
theorem dX5_nextToken_140 : zD cX5_nextToken 140 (.iadd) 1 141 := ⟨by decide +kernel, rfl⟩
theorem dX5_nextToken_141 : zD cX5_nextToken 141 (.putfield 25) 3 144 := ⟨by decide +kernel, rfl⟩
theorem dX5_nextToken_144 : zD cX5_nextToken 144 (.return_) 1 145 := ⟨by decide +kernel, rfl⟩
theorem dX5_stretch_0 : zD cX5_stretch 0 (.iconst 0) 1 1 := ⟨by decide +kernel, rfl⟩
theorem dX5_stretch_1 : zD cX5_stretch 1 (.istore_n 3) 1 2 := ⟨by decide +kernel, rfl⟩
theorem dX5_stretch_2 : zD cX5_stretch 2 (.aload_n 0) 1 3 := ⟨by decide +kernel, rfl⟩
theorem dX5_stretch_3 : zD cX5_stretch 3 (.getfield 25) 3 6 := ⟨by decide +kernel, rfl⟩
theorem dX5_stretch_6 : zD cX5_stretch 6 (.iload_n 3) 1 7 := ⟨by decide +kernel, rfl⟩
theorem dX5_stretch_7 : zD cX5_stretch 7 (.iadd) 1 8 := ⟨by decide +kernel, rfl⟩
theorem dX5_stretch_8 : zD cX5_stretch 8 (.aload_n 0) 1 9 := ⟨by decide +kernel, rfl⟩
theorem dX5_stretch_9 : zD cX5_stretch 9 (.getfield 15) 3 12 := ⟨by decide +kernel, rfl⟩
theorem dX5_stretch_12 : zJ cX5_stretch 12 (fun o => .if_icmp .ge o) 51 15 := ⟨39, by decide +kernel, by decide, rfl⟩
theorem dX5_stretch_15 : zD cX5_stretch 15 (.aload_n 0) 1 16 := ⟨by decide +kernel, rfl⟩
theorem dX5_stretch_16 : zD cX5_stretch 16 (.getfield 11) 3 19 := ⟨by decide +kernel, rfl⟩
theorem dX5_stretch_19 : zD cX5_stretch 19 (.aload_n 0) 1 20 := ⟨by decide +kernel, rfl⟩
theorem dX5_stretch_20 : zD cX5_stretch 20 (.getfield 25) 3 23 := ⟨by decide +kernel, rfl⟩
theorem dX5_stretch_23 : zD cX5_stretch 23 (.iload_n 3) 1 24 := ⟨by decide +kernel, rfl⟩
theorem dX5_stretch_24 : zD cX5_stretch 24 (.iadd) 1 25 := ⟨by decide +kernel, rfl⟩
theorem dX5_stretch_25 : zD cX5_stretch 25 (.baload) 1 26 := ⟨by decide +kernel, rfl⟩
theorem dX5_stretch_26 : zD cX5_stretch 26 (.iload_n 1) 1 27 := ⟨by decide +kernel, rfl⟩
theorem dX5_stretch_27 : zJ cX5_stretch 27 (fun o => .if_icmp .lt o) 51 30 := ⟨24, by decide +kernel, by decide, rfl⟩
theorem dX5_stretch_30 : zD cX5_stretch 30 (.aload_n 0) 1 31 := ⟨by decide +kernel, rfl⟩
theorem dX5_stretch_31 : zD cX5_stretch 31 (.getfield 11) 3 34 := ⟨by decide +kernel, rfl⟩
theorem dX5_stretch_34 : zD cX5_stretch 34 (.aload_n 0) 1 35 := ⟨by decide +kernel, rfl⟩
theorem dX5_stretch_35 : zD cX5_stretch 35 (.getfield 25) 3 38 := ⟨by decide +kernel, rfl⟩
theorem dX5_stretch_38 : zD cX5_stretch 38 (.iload_n 3) 1 39 := ⟨by decide +kernel, rfl⟩
theorem dX5_stretch_39 : zD cX5_stretch 39 (.iadd) 1 40 := ⟨by decide +kernel, rfl⟩
theorem dX5_stretch_40 : zD cX5_stretch 40 (.baload) 1 41 := ⟨by decide +kernel, rfl⟩
theorem dX5_stretch_41 : zD cX5_stretch 41 (.iload_n 2) 1 42 := ⟨by decide +kernel, rfl⟩
theorem dX5_stretch_42 : zJ cX5_stretch 42 (fun o => .if_icmp .gt o) 51 45 := ⟨9, by decide +kernel, by decide, rfl⟩
theorem dX5_stretch_45 : zD cX5_stretch 45 (.iinc 3 1) 3 48 := ⟨by decide +kernel, rfl⟩
theorem dX5_stretch_48 : zG cX5_stretch 48 2 := ⟨(-46), by decide +kernel, by decide⟩
theorem dX5_stretch_51 : zD cX5_stretch 51 (.iload_n 3) 1 52 := ⟨by decide +kernel, rfl⟩
theorem dX5_stretch_52 : zD cX5_stretch 52 (.ireturn) 1 53 := ⟨by decide +kernel, rfl⟩
theorem dX5_readNumber_0 : zD cX5_readNumber 0 (.aload_n 0) 1 1 := ⟨by decide +kernel, rfl⟩
theorem dX5_readNumber_1 : zD cX5_readNumber 1 (.iload_n 1) 1 2 := ⟨by decide +kernel, rfl⟩
theorem dX5_readNumber_2 : zD cX5_readNumber 2 (.iconst 2) 1 3 := ⟨by decide +kernel, rfl⟩
theorem dX5_readNumber_3 : zJ cX5_readNumber 3 (fun o => .if_icmp .gt o) 10 6 := ⟨7, by decide +kernel, by decide, rfl⟩
theorem dX5_readNumber_6 : zD cX5_readNumber 6 (.iconst 2) 1 7 := ⟨by decide +kernel, rfl⟩
theorem dX5_readNumber_7 : zG cX5_readNumber 7 11 := ⟨4, by decide +kernel, by decide⟩
theorem dX5_readNumber_10 : zD cX5_readNumber 10 (.iconst 4) 1 11 := ⟨by decide +kernel, rfl⟩
theorem dX5_readNumber_11 : zD cX5_readNumber 11 (.putfield 28) 3 14 := ⟨by decide +kernel, rfl⟩
theorem dX5_readNumber_14 : zD cX5_readNumber 14 (.aload_n 0) 1 15 := ⟨by decide +kernel, rfl⟩
theorem dX5_readNumber_15 : zD cX5_readNumber 15 (.iconst 0) 1 16 := ⟨by decide +kernel, rfl⟩
theorem dX5_readNumber_16 : zD cX5_readNumber 16 (.putfield 34) 3 19 := ⟨by decide +kernel, rfl⟩
theorem dX5_readNumber_19 : zD cX5_readNumber 19 (.iconst 0) 1 20 := ⟨by decide +kernel, rfl⟩
theorem dX5_readNumber_20 : zD cX5_readNumber 20 (.istore_n 2) 1 21 := ⟨by decide +kernel, rfl⟩
theorem dX5_readNumber_21 : zD cX5_readNumber 21 (.iload_n 2) 1 22 := ⟨by decide +kernel, rfl⟩
theorem dX5_readNumber_22 : zD cX5_readNumber 22 (.iload_n 1) 1 23 := ⟨by decide +kernel, rfl⟩
theorem dX5_readNumber_23 : zJ cX5_readNumber 23 (fun o => .if_icmp .ge o) 63 26 := ⟨40, by decide +kernel, by decide, rfl⟩
theorem dX5_readNumber_26 : zD cX5_readNumber 26 (.iload_n 2) 1 27 := ⟨by decide +kernel, rfl⟩
theorem dX5_readNumber_27 : zD cX5_readNumber 27 (.iconst 2) 1 28 := ⟨by decide +kernel, rfl⟩
theorem dX5_readNumber_28 : zJ cX5_readNumber 28 (fun o => .if_icmp .ge o) 63 31 := ⟨35, by decide +kernel, by decide, rfl⟩
theorem dX5_readNumber_31 : zD cX5_readNumber 31 (.aload_n 0) 1 32 := ⟨by decide +kernel, rfl⟩
theorem dX5_readNumber_32 : zD cX5_readNumber 32 (.aload_n 0) 1 33 := ⟨by decide +kernel, rfl⟩
theorem dX5_readNumber_33 : zD cX5_readNumber 33 (.getfield 34) 3 36 := ⟨by decide +kernel, rfl⟩
theorem dX5_readNumber_36 : zD cX5_readNumber 36 (.bipush 10) 2 38 := ⟨by decide +kernel, rfl⟩
theorem dX5_readNumber_38 : zD cX5_readNumber 38 (.imul) 1 39 := ⟨by decide +kernel, rfl⟩
theorem dX5_readNumber_39 : zD cX5_readNumber 39 (.aload_n 0) 1 40 := ⟨by decide +kernel, rfl⟩
theorem dX5_readNumber_40 : zD cX5_readNumber 40 (.getfield 11) 3 43 := ⟨by decide +kernel, rfl⟩
theorem dX5_readNumber_43 : zD cX5_readNumber 43 (.aload_n 0) 1 44 := ⟨by decide +kernel, rfl⟩
theorem dX5_readNumber_44 : zD cX5_readNumber 44 (.getfield 31) 3 47 := ⟨by decide +kernel, rfl⟩
theorem dX5_readNumber_47 : zD cX5_readNumber 47 (.iload_n 2) 1 48 := ⟨by decide +kernel, rfl⟩
theorem dX5_readNumber_48 : zD cX5_readNumber 48 (.iadd) 1 49 := ⟨by decide +kernel, rfl⟩
theorem dX5_readNumber_49 : zD cX5_readNumber 49 (.baload) 1 50 := ⟨by decide +kernel, rfl⟩
theorem dX5_readNumber_50 : zD cX5_readNumber 50 (.bipush 48) 2 52 := ⟨by decide +kernel, rfl⟩
theorem dX5_readNumber_52 : zD cX5_readNumber 52 (.isub) 1 53 := ⟨by decide +kernel, rfl⟩
theorem dX5_readNumber_53 : zD cX5_readNumber 53 (.iadd) 1 54 := ⟨by decide +kernel, rfl⟩
theorem dX5_readNumber_54 : zD cX5_readNumber 54 (.putfield 34) 3 57 := ⟨by decide +kernel, rfl⟩
theorem dX5_readNumber_57 : zD cX5_readNumber 57 (.iinc 2 1) 3 60 := ⟨by decide +kernel, rfl⟩
theorem dX5_readNumber_60 : zG cX5_readNumber 60 21 := ⟨(-39), by decide +kernel, by decide⟩
theorem dX5_readNumber_63 : zD cX5_readNumber 63 (.return_) 1 64 := ⟨by decide +kernel, rfl⟩
theorem dX5_lineBegun_0 : zD cX5_lineBegun 0 (.aload_n 0) 1 1 := ⟨by decide +kernel, rfl⟩
theorem dX5_lineBegun_1 : zD cX5_lineBegun 1 (.ldc 118) 2 3 := ⟨by decide +kernel, rfl⟩
theorem dX5_lineBegun_3 : zD cX5_lineBegun 3 (.invokevirtual 120) 3 6 := ⟨by decide +kernel, rfl⟩
theorem dX5_lineBegun_6 : zJ cX5_lineBegun 6 (fun o => .ifCond .eq o) 11 9 := ⟨5, by decide +kernel, by decide, rfl⟩
theorem dX5_lineBegun_9 : zD cX5_lineBegun 9 (.iconst 0) 1 10 := ⟨by decide +kernel, rfl⟩
theorem dX5_lineBegun_10 : zD cX5_lineBegun 10 (.ireturn) 1 11 := ⟨by decide +kernel, rfl⟩
theorem dX5_lineBegun_11 : zD cX5_lineBegun 11 (.aload_n 0) 1 12 := ⟨by decide +kernel, rfl⟩
theorem dX5_lineBegun_12 : zD cX5_lineBegun 12 (.ldc 124) 2 14 := ⟨by decide +kernel, rfl⟩
theorem dX5_lineBegun_14 : zD cX5_lineBegun 14 (.invokevirtual 120) 3 17 := ⟨by decide +kernel, rfl⟩
theorem dX5_lineBegun_17 : zJ cX5_lineBegun 17 (fun o => .ifCond .eq o) 22 20 := ⟨5, by decide +kernel, by decide, rfl⟩
theorem dX5_lineBegun_20 : zD cX5_lineBegun 20 (.iconst 1) 1 21 := ⟨by decide +kernel, rfl⟩
theorem dX5_lineBegun_21 : zD cX5_lineBegun 21 (.ireturn) 1 22 := ⟨by decide +kernel, rfl⟩
theorem dX5_lineBegun_22 : zD cX5_lineBegun 22 (.aload_n 0) 1 23 := ⟨by decide +kernel, rfl⟩
theorem dX5_lineBegun_23 : zD cX5_lineBegun 23 (.ldc 126) 2 25 := ⟨by decide +kernel, rfl⟩
theorem dX5_lineBegun_25 : zD cX5_lineBegun 25 (.invokevirtual 120) 3 28 := ⟨by decide +kernel, rfl⟩
theorem dX5_lineBegun_28 : zJ cX5_lineBegun 28 (fun o => .ifCond .eq o) 33 31 := ⟨5, by decide +kernel, by decide, rfl⟩
theorem dX5_lineBegun_31 : zD cX5_lineBegun 31 (.iconst 2) 1 32 := ⟨by decide +kernel, rfl⟩
theorem dX5_lineBegun_32 : zD cX5_lineBegun 32 (.ireturn) 1 33 := ⟨by decide +kernel, rfl⟩
theorem dX5_lineBegun_33 : zD cX5_lineBegun 33 (.aload_n 0) 1 34 := ⟨by decide +kernel, rfl⟩
theorem dX5_lineBegun_34 : zD cX5_lineBegun 34 (.ldc 128) 2 36 := ⟨by decide +kernel, rfl⟩
theorem dX5_lineBegun_36 : zD cX5_lineBegun 36 (.invokevirtual 120) 3 39 := ⟨by decide +kernel, rfl⟩
theorem dX5_lineBegun_39 : zJ cX5_lineBegun 39 (fun o => .ifCond .eq o) 44 42 := ⟨5, by decide +kernel, by decide, rfl⟩
theorem dX5_lineBegun_42 : zD cX5_lineBegun 42 (.iconst 3) 1 43 := ⟨by decide +kernel, rfl⟩
theorem dX5_lineBegun_43 : zD cX5_lineBegun 43 (.ireturn) 1 44 := ⟨by decide +kernel, rfl⟩
theorem dX5_lineBegun_44 : zD cX5_lineBegun 44 (.aload_n 0) 1 45 := ⟨by decide +kernel, rfl⟩
theorem dX5_lineBegun_45 : zD cX5_lineBegun 45 (.ldc 130) 2 47 := ⟨by decide +kernel, rfl⟩
theorem dX5_lineBegun_47 : zD cX5_lineBegun 47 (.invokevirtual 120) 3 50 := ⟨by decide +kernel, rfl⟩
theorem dX5_lineBegun_50 : zJ cX5_lineBegun 50 (fun o => .ifCond .eq o) 55 53 := ⟨5, by decide +kernel, by decide, rfl⟩
theorem dX5_lineBegun_53 : zD cX5_lineBegun 53 (.iconst 4) 1 54 := ⟨by decide +kernel, rfl⟩
theorem dX5_lineBegun_54 : zD cX5_lineBegun 54 (.ireturn) 1 55 := ⟨by decide +kernel, rfl⟩
theorem dX5_lineBegun_55 : zD cX5_lineBegun 55 (.aload_n 0) 1 56 := ⟨by decide +kernel, rfl⟩
theorem dX5_lineBegun_56 : zD cX5_lineBegun 56 (.ldc 132) 2 58 := ⟨by decide +kernel, rfl⟩
theorem dX5_lineBegun_58 : zD cX5_lineBegun 58 (.invokevirtual 120) 3 61 := ⟨by decide +kernel, rfl⟩
theorem dX5_lineBegun_61 : zJ cX5_lineBegun 61 (fun o => .ifCond .eq o) 68 64 := ⟨7, by decide +kernel, by decide, rfl⟩
theorem dX5_lineBegun_64 : zD cX5_lineBegun 64 (.iconst 5) 1 65 := ⟨by decide +kernel, rfl⟩
theorem dX5_lineBegun_65 : zG cX5_lineBegun 65 70 := ⟨5, by decide +kernel, by decide⟩
theorem dX5_lineBegun_68 : zD cX5_lineBegun 68 (.bipush 6) 2 70 := ⟨by decide +kernel, rfl⟩
theorem dX5_lineBegun_70 : zD cX5_lineBegun 70 (.ireturn) 1 71 := ⟨by decide +kernel, rfl⟩
theorem dX5_isNamed_0 : zD cX5_isNamed 0 (.aload_n 0) 1 1 := ⟨by decide +kernel, rfl⟩
theorem dX5_isNamed_1 : zD cX5_isNamed 1 (.getfield 25) 3 4 := ⟨by decide +kernel, rfl⟩
theorem dX5_isNamed_4 : zD cX5_isNamed 4 (.aload_n 0) 1 5 := ⟨by decide +kernel, rfl⟩
theorem dX5_isNamed_5 : zD cX5_isNamed 5 (.getfield 31) 3 8 := ⟨by decide +kernel, rfl⟩
theorem dX5_isNamed_8 : zD cX5_isNamed 8 (.isub) 1 9 := ⟨by decide +kernel, rfl⟩
theorem dX5_isNamed_9 : zD cX5_isNamed 9 (.aload_n 1) 1 10 := ⟨by decide +kernel, rfl⟩
theorem dX5_isNamed_10 : zD cX5_isNamed 10 (.invokevirtual 134) 3 13 := ⟨by decide +kernel, rfl⟩
theorem dX5_isNamed_13 : zJ cX5_isNamed 13 (fun o => .if_icmp .eq o) 18 16 := ⟨5, by decide +kernel, by decide, rfl⟩
theorem dX5_isNamed_16 : zD cX5_isNamed 16 (.iconst 0) 1 17 := ⟨by decide +kernel, rfl⟩
theorem dX5_isNamed_17 : zD cX5_isNamed 17 (.ireturn) 1 18 := ⟨by decide +kernel, rfl⟩
theorem dX5_isNamed_18 : zD cX5_isNamed 18 (.iconst 0) 1 19 := ⟨by decide +kernel, rfl⟩
theorem dX5_isNamed_19 : zD cX5_isNamed 19 (.istore_n 2) 1 20 := ⟨by decide +kernel, rfl⟩
theorem dX5_isNamed_20 : zD cX5_isNamed 20 (.iload_n 2) 1 21 := ⟨by decide +kernel, rfl⟩
theorem dX5_isNamed_21 : zD cX5_isNamed 21 (.aload_n 1) 1 22 := ⟨by decide +kernel, rfl⟩
theorem dX5_isNamed_22 : zD cX5_isNamed 22 (.invokevirtual 134) 3 25 := ⟨by decide +kernel, rfl⟩
theorem dX5_isNamed_25 : zJ cX5_isNamed 25 (fun o => .if_icmp .ge o) 55 28 := ⟨30, by decide +kernel, by decide, rfl⟩
theorem dX5_isNamed_28 : zD cX5_isNamed 28 (.aload_n 0) 1 29 := ⟨by decide +kernel, rfl⟩
theorem dX5_isNamed_29 : zD cX5_isNamed 29 (.getfield 11) 3 32 := ⟨by decide +kernel, rfl⟩
theorem dX5_isNamed_32 : zD cX5_isNamed 32 (.aload_n 0) 1 33 := ⟨by decide +kernel, rfl⟩
theorem dX5_isNamed_33 : zD cX5_isNamed 33 (.getfield 31) 3 36 := ⟨by decide +kernel, rfl⟩
theorem dX5_isNamed_36 : zD cX5_isNamed 36 (.iload_n 2) 1 37 := ⟨by decide +kernel, rfl⟩
theorem dX5_isNamed_37 : zD cX5_isNamed 37 (.iadd) 1 38 := ⟨by decide +kernel, rfl⟩
theorem dX5_isNamed_38 : zD cX5_isNamed 38 (.baload) 1 39 := ⟨by decide +kernel, rfl⟩
theorem dX5_isNamed_39 : zD cX5_isNamed 39 (.aload_n 1) 1 40 := ⟨by decide +kernel, rfl⟩
theorem dX5_isNamed_40 : zD cX5_isNamed 40 (.iload_n 2) 1 41 := ⟨by decide +kernel, rfl⟩
theorem dX5_isNamed_41 : zD cX5_isNamed 41 (.invokevirtual 138) 3 44 := ⟨by decide +kernel, rfl⟩
theorem dX5_isNamed_44 : zJ cX5_isNamed 44 (fun o => .if_icmp .eq o) 49 47 := ⟨5, by decide +kernel, by decide, rfl⟩
theorem dX5_isNamed_47 : zD cX5_isNamed 47 (.iconst 0) 1 48 := ⟨by decide +kernel, rfl⟩
theorem dX5_isNamed_48 : zD cX5_isNamed 48 (.ireturn) 1 49 := ⟨by decide +kernel, rfl⟩
theorem dX5_isNamed_49 : zD cX5_isNamed 49 (.iinc 2 1) 3 52 := ⟨by decide +kernel, rfl⟩
theorem dX5_isNamed_52 : zG cX5_isNamed 52 20 := ⟨(-32), by decide +kernel, by decide⟩
theorem dX5_isNamed_55 : zD cX5_isNamed 55 (.iconst 1) 1 56 := ⟨by decide +kernel, rfl⟩
theorem dX5_isNamed_56 : zD cX5_isNamed 56 (.ireturn) 1 57 := ⟨by decide +kernel, rfl⟩
theorem dJ0_length_8abf5_0 : zD cJ0_length_8abf5 0 (.aload_n 0) 1 1 := ⟨by decide +kernel, rfl⟩
theorem dJ0_length_8abf5_1 : zD cJ0_length_8abf5 1 (.getfield 9) 3 4 := ⟨by decide +kernel, rfl⟩
theorem dJ0_length_8abf5_4 : zD cJ0_length_8abf5 4 (.arraylength) 1 5 := ⟨by decide +kernel, rfl⟩
theorem dJ0_length_8abf5_5 : zD cJ0_length_8abf5 5 (.aload_n 0) 1 6 := ⟨by decide +kernel, rfl⟩
theorem dJ0_length_8abf5_6 : zD cJ0_length_8abf5 6 (.invokevirtual 335) 3 9 := ⟨by decide +kernel, rfl⟩
theorem dJ0_length_8abf5_9 : zD cJ0_length_8abf5 9 (.ishr) 1 10 := ⟨by decide +kernel, rfl⟩
theorem dJ0_length_8abf5_10 : zD cJ0_length_8abf5 10 (.ireturn) 1 11 := ⟨by decide +kernel, rfl⟩
theorem dJ0_charAt_5068e_0 : zD cJ0_charAt_5068e 0 (.aload_n 0) 1 1 := ⟨by decide +kernel, rfl⟩
theorem dJ0_charAt_5068e_1 : zD cJ0_charAt_5068e 1 (.invokevirtual 492) 3 4 := ⟨by decide +kernel, rfl⟩
theorem dJ0_charAt_5068e_4 : zJ cJ0_charAt_5068e 4 (fun o => .ifCond .eq o) 16 7 := ⟨12, by decide +kernel, by decide, rfl⟩
theorem dJ0_charAt_5068e_7 : zD cJ0_charAt_5068e 7 (.aload_n 0) 1 8 := ⟨by decide +kernel, rfl⟩
theorem dJ0_charAt_5068e_8 : zD cJ0_charAt_5068e 8 (.getfield 9) 3 11 := ⟨by decide +kernel, rfl⟩
theorem dJ0_charAt_5068e_11 : zD cJ0_charAt_5068e 11 (.iload_n 1) 1 12 := ⟨by decide +kernel, rfl⟩
theorem dJ0_charAt_5068e_12 : zD cJ0_charAt_5068e 12 (.invokestatic 495) 3 15 := ⟨by decide +kernel, rfl⟩
theorem dJ0_charAt_5068e_15 : zD cJ0_charAt_5068e 15 (.ireturn) 1 16 := ⟨by decide +kernel, rfl⟩
theorem dJ0_charAt_5068e_16 : zD cJ0_charAt_5068e 16 (.aload_n 0) 1 17 := ⟨by decide +kernel, rfl⟩
theorem dJ0_charAt_5068e_17 : zD cJ0_charAt_5068e 17 (.getfield 9) 3 20 := ⟨by decide +kernel, rfl⟩
theorem dJ0_charAt_5068e_20 : zD cJ0_charAt_5068e 20 (.iload_n 1) 1 21 := ⟨by decide +kernel, rfl⟩
theorem dJ0_charAt_5068e_21 : zD cJ0_charAt_5068e 21 (.invokestatic 498) 3 24 := ⟨by decide +kernel, rfl⟩
theorem dJ0_charAt_5068e_24 : zD cJ0_charAt_5068e 24 (.ireturn) 1 25 := ⟨by decide +kernel, rfl⟩
theorem dJ0_coder_7d493_0 : zD cJ0_coder_7d493 0 (.getstatic 38) 3 3 := ⟨by decide +kernel, rfl⟩
theorem dJ0_coder_7d493_3 : zJ cJ0_coder_7d493 3 (fun o => .ifCond .eq o) 13 6 := ⟨10, by decide +kernel, by decide, rfl⟩
theorem dJ0_coder_7d493_6 : zD cJ0_coder_7d493 6 (.aload_n 0) 1 7 := ⟨by decide +kernel, rfl⟩
theorem dJ0_coder_7d493_7 : zD cJ0_coder_7d493 7 (.getfield 15) 3 10 := ⟨by decide +kernel, rfl⟩
theorem dJ0_coder_7d493_10 : zG cJ0_coder_7d493 10 14 := ⟨4, by decide +kernel, by decide⟩
theorem dJ0_coder_7d493_13 : zD cJ0_coder_7d493 13 (.iconst 1) 1 14 := ⟨by decide +kernel, rfl⟩
theorem dJ0_coder_7d493_14 : zD cJ0_coder_7d493 14 (.ireturn) 1 15 := ⟨by decide +kernel, rfl⟩
theorem dJ0_isLatin1_aae02_0 : zD cJ0_isLatin1_aae02 0 (.getstatic 38) 3 3 := ⟨by decide +kernel, rfl⟩
theorem dJ0_isLatin1_aae02_3 : zJ cJ0_isLatin1_aae02 3 (fun o => .ifCond .eq o) 17 6 := ⟨14, by decide +kernel, by decide, rfl⟩
theorem dJ0_isLatin1_aae02_6 : zD cJ0_isLatin1_aae02 6 (.aload_n 0) 1 7 := ⟨by decide +kernel, rfl⟩
theorem dJ0_isLatin1_aae02_7 : zD cJ0_isLatin1_aae02 7 (.getfield 15) 3 10 := ⟨by decide +kernel, rfl⟩
theorem dJ0_isLatin1_aae02_10 : zJ cJ0_isLatin1_aae02 10 (fun o => .ifCond .ne o) 17 13 := ⟨7, by decide +kernel, by decide, rfl⟩
theorem dJ0_isLatin1_aae02_13 : zD cJ0_isLatin1_aae02 13 (.iconst 1) 1 14 := ⟨by decide +kernel, rfl⟩
theorem dJ0_isLatin1_aae02_14 : zG cJ0_isLatin1_aae02 14 18 := ⟨4, by decide +kernel, by decide⟩
theorem dJ0_isLatin1_aae02_17 : zD cJ0_isLatin1_aae02 17 (.iconst 0) 1 18 := ⟨by decide +kernel, rfl⟩
theorem dJ0_isLatin1_aae02_18 : zD cJ0_isLatin1_aae02 18 (.ireturn) 1 19 := ⟨by decide +kernel, rfl⟩
theorem dJ0_checkIndex_df160_0 : zD cJ0_checkIndex_df160 0 (.iload_n 0) 1 1 := ⟨by decide +kernel, rfl⟩
theorem dJ0_checkIndex_df160_1 : zD cJ0_checkIndex_df160 1 (.iload_n 1) 1 2 := ⟨by decide +kernel, rfl⟩
theorem dJ0_checkIndex_df160_2 : zD cJ0_checkIndex_df160 2 (.getstatic 1053) 3 5 := ⟨by decide +kernel, rfl⟩
theorem dJ0_checkIndex_df160_5 : zD cJ0_checkIndex_df160 5 (.invokestatic 1059) 3 8 := ⟨by decide +kernel, rfl⟩
theorem dJ0_checkIndex_df160_8 : zD cJ0_checkIndex_df160 8 (.pop) 1 9 := ⟨by decide +kernel, rfl⟩
theorem dJ0_checkIndex_df160_9 : zD cJ0_checkIndex_df160 9 (.return_) 1 10 := ⟨by decide +kernel, rfl⟩
theorem dJ1_charAt_3b067_0 : zD cJ1_charAt_3b067 0 (.iload_n 1) 1 1 := ⟨by decide +kernel, rfl⟩
theorem dJ1_charAt_3b067_1 : zD cJ1_charAt_3b067 1 (.aload_n 0) 1 2 := ⟨by decide +kernel, rfl⟩
theorem dJ1_charAt_3b067_2 : zD cJ1_charAt_3b067 2 (.arraylength) 1 3 := ⟨by decide +kernel, rfl⟩
theorem dJ1_charAt_3b067_3 : zD cJ1_charAt_3b067 3 (.invokestatic 9) 3 6 := ⟨by decide +kernel, rfl⟩
theorem dJ1_charAt_3b067_6 : zD cJ1_charAt_3b067 6 (.aload_n 0) 1 7 := ⟨by decide +kernel, rfl⟩
theorem dJ1_charAt_3b067_7 : zD cJ1_charAt_3b067 7 (.iload_n 1) 1 8 := ⟨by decide +kernel, rfl⟩
theorem dJ1_charAt_3b067_8 : zD cJ1_charAt_3b067 8 (.baload) 1 9 := ⟨by decide +kernel, rfl⟩
theorem dJ1_charAt_3b067_9 : zD cJ1_charAt_3b067 9 (.sipush 255) 3 12 := ⟨by decide +kernel, rfl⟩
theorem dJ1_charAt_3b067_12 : zD cJ1_charAt_3b067 12 (.iand) 1 13 := ⟨by decide +kernel, rfl⟩
theorem dJ1_charAt_3b067_13 : zD cJ1_charAt_3b067 13 (.i2c) 1 14 := ⟨by decide +kernel, rfl⟩
theorem dJ1_charAt_3b067_14 : zD cJ1_charAt_3b067 14 (.ireturn) 1 15 := ⟨by decide +kernel, rfl⟩
theorem dJ3_checkIndex_8e157_0 : zD cJ3_checkIndex_8e157 0 (.iload_n 0) 1 1 := ⟨by decide +kernel, rfl⟩
theorem dJ3_checkIndex_8e157_1 : zJ cJ3_checkIndex_8e157 1 (fun o => .ifCond .lt o) 9 4 := ⟨8, by decide +kernel, by decide, rfl⟩
theorem dJ3_checkIndex_8e157_4 : zD cJ3_checkIndex_8e157 4 (.iload_n 0) 1 5 := ⟨by decide +kernel, rfl⟩
theorem dJ3_checkIndex_8e157_5 : zD cJ3_checkIndex_8e157 5 (.iload_n 1) 1 6 := ⟨by decide +kernel, rfl⟩
theorem dJ3_checkIndex_8e157_6 : zJ cJ3_checkIndex_8e157 6 (fun o => .if_icmp .lt o) 16 9 := ⟨10, by decide +kernel, by decide, rfl⟩
theorem dJ3_checkIndex_8e157_9 : zD cJ3_checkIndex_8e157 9 (.aload_n 2) 1 10 := ⟨by decide +kernel, rfl⟩
theorem dJ3_checkIndex_8e157_10 : zD cJ3_checkIndex_8e157 10 (.iload_n 0) 1 11 := ⟨by decide +kernel, rfl⟩
theorem dJ3_checkIndex_8e157_11 : zD cJ3_checkIndex_8e157 11 (.iload_n 1) 1 12 := ⟨by decide +kernel, rfl⟩
theorem dJ3_checkIndex_8e157_12 : zD cJ3_checkIndex_8e157 12 (.invokestatic 95) 3 15 := ⟨by decide +kernel, rfl⟩
theorem dJ3_checkIndex_8e157_15 : zD cJ3_checkIndex_8e157 15 (.athrow) 1 16 := ⟨by decide +kernel, rfl⟩
theorem dJ3_checkIndex_8e157_16 : zD cJ3_checkIndex_8e157 16 (.iload_n 0) 1 17 := ⟨by decide +kernel, rfl⟩
theorem dJ3_checkIndex_8e157_17 : zD cJ3_checkIndex_8e157 17 (.ireturn) 1 18 := ⟨by decide +kernel, rfl⟩
end
section
theorem dX6_init_0 : zD cX6_init 0 (.aload_n 0) 1 1 := ⟨by decide +kernel, rfl⟩
theorem dX6_init_1 : zD cX6_init 1 (.invokespecial 1) 3 4 := ⟨by decide +kernel, rfl⟩
theorem dX6_init_4 : zD cX6_init 4 (.aload_n 0) 1 5 := ⟨by decide +kernel, rfl⟩
theorem dX6_init_5 : zD cX6_init 5 (.new 7) 3 8 := ⟨by decide +kernel, rfl⟩
theorem dX6_init_8 : zD cX6_init 8 (.dup) 1 9 := ⟨by decide +kernel, rfl⟩
theorem dX6_init_9 : zD cX6_init 9 (.invokespecial 9) 3 12 := ⟨by decide +kernel, rfl⟩
theorem dX6_init_12 : zD cX6_init 12 (.putfield 10) 3 15 := ⟨by decide +kernel, rfl⟩
theorem dX6_init_15 : zD cX6_init 15 (.aload_n 0) 1 16 := ⟨by decide +kernel, rfl⟩
theorem dX6_init_16 : zD cX6_init 16 (.new 7) 3 19 := ⟨by decide +kernel, rfl⟩
theorem dX6_init_19 : zD cX6_init 19 (.dup) 1 20 := ⟨by decide +kernel, rfl⟩
theorem dX6_init_20 : zD cX6_init 20 (.invokespecial 9) 3 23 := ⟨by decide +kernel, rfl⟩
theorem dX6_init_23 : zD cX6_init 23 (.putfield 16) 3 26 := ⟨by decide +kernel, rfl⟩
theorem dX6_init_26 : zD cX6_init 26 (.aload_n 0) 1 27 := ⟨by decide +kernel, rfl⟩
theorem dX6_init_27 : zD cX6_init 27 (.iconst 2) 1 28 := ⟨by decide +kernel, rfl⟩
theorem dX6_init_28 : zD cX6_init 28 (.anewarray 7) 3 31 := ⟨by decide +kernel, rfl⟩
theorem dX6_init_31 : zD cX6_init 31 (.dup) 1 32 := ⟨by decide +kernel, rfl⟩
theorem dX6_init_32 : zD cX6_init 32 (.iconst 0) 1 33 := ⟨by decide +kernel, rfl⟩
theorem dX6_init_33 : zD cX6_init 33 (.new 7) 3 36 := ⟨by decide +kernel, rfl⟩
theorem dX6_init_36 : zD cX6_init 36 (.dup) 1 37 := ⟨by decide +kernel, rfl⟩
theorem dX6_init_37 : zD cX6_init 37 (.invokespecial 9) 3 40 := ⟨by decide +kernel, rfl⟩
theorem dX6_init_40 : zD cX6_init 40 (.aastore) 1 41 := ⟨by decide +kernel, rfl⟩
theorem dX6_init_41 : zD cX6_init 41 (.dup) 1 42 := ⟨by decide +kernel, rfl⟩
theorem dX6_init_42 : zD cX6_init 42 (.iconst 1) 1 43 := ⟨by decide +kernel, rfl⟩
theorem dX6_init_43 : zD cX6_init 43 (.new 7) 3 46 := ⟨by decide +kernel, rfl⟩
theorem dX6_init_46 : zD cX6_init 46 (.dup) 1 47 := ⟨by decide +kernel, rfl⟩
theorem dX6_init_47 : zD cX6_init 47 (.invokespecial 9) 3 50 := ⟨by decide +kernel, rfl⟩
theorem dX6_init_50 : zD cX6_init 50 (.aastore) 1 51 := ⟨by decide +kernel, rfl⟩
theorem dX6_init_51 : zD cX6_init 51 (.putfield 19) 3 54 := ⟨by decide +kernel, rfl⟩
theorem dX6_init_54 : zD cX6_init 54 (.aload_n 0) 1 55 := ⟨by decide +kernel, rfl⟩
theorem dX6_init_55 : zD cX6_init 55 (.iconst 2) 1 56 := ⟨by decide +kernel, rfl⟩
theorem dX6_init_56 : zD cX6_init 56 (.newarray .boolean) 2 58 := ⟨by decide +kernel, rfl⟩
theorem dX6_init_58 : zD cX6_init 58 (.putfield 23) 3 61 := ⟨by decide +kernel, rfl⟩
theorem dX6_init_61 : zD cX6_init 61 (.aload_n 0) 1 62 := ⟨by decide +kernel, rfl⟩
theorem dX6_init_62 : zD cX6_init 62 (.new 27) 3 65 := ⟨by decide +kernel, rfl⟩
theorem dX6_init_65 : zD cX6_init 65 (.dup) 1 66 := ⟨by decide +kernel, rfl⟩
theorem dX6_init_66 : zD cX6_init 66 (.invokespecial 29) 3 69 := ⟨by decide +kernel, rfl⟩
theorem dX6_init_69 : zD cX6_init 69 (.putfield 30) 3 72 := ⟨by decide +kernel, rfl⟩
theorem dX6_init_72 : zD cX6_init 72 (.aload_n 0) 1 73 := ⟨by decide +kernel, rfl⟩
theorem dX6_init_73 : zD cX6_init 73 (.new 34) 3 76 := ⟨by decide +kernel, rfl⟩
theorem dX6_init_76 : zD cX6_init 76 (.dup) 1 77 := ⟨by decide +kernel, rfl⟩
theorem dX6_init_77 : zD cX6_init 77 (.invokespecial 36) 3 80 := ⟨by decide +kernel, rfl⟩
theorem dX6_init_80 : zD cX6_init 80 (.putfield 37) 3 83 := ⟨by decide +kernel, rfl⟩
theorem dX6_init_83 : zD cX6_init 83 (.aload_n 0) 1 84 := ⟨by decide +kernel, rfl⟩
theorem dX6_init_84 : zD cX6_init 84 (.new 41) 3 87 := ⟨by decide +kernel, rfl⟩
theorem dX6_init_87 : zD cX6_init 87 (.dup) 1 88 := ⟨by decide +kernel, rfl⟩
theorem dX6_init_88 : zD cX6_init 88 (.invokespecial 43) 3 91 := ⟨by decide +kernel, rfl⟩
theorem dX6_init_91 : zD cX6_init 91 (.putfield 44) 3 94 := ⟨by decide +kernel, rfl⟩
theorem dX6_init_94 : zD cX6_init 94 (.aload_n 0) 1 95 := ⟨by decide +kernel, rfl⟩
theorem dX6_init_95 : zD cX6_init 95 (.new 48) 3 98 := ⟨by decide +kernel, rfl⟩
theorem dX6_init_98 : zD cX6_init 98 (.dup) 1 99 := ⟨by decide +kernel, rfl⟩
theorem dX6_init_99 : zD cX6_init 99 (.invokespecial 50) 3 102 := ⟨by decide +kernel, rfl⟩
theorem dX6_init_102 : zD cX6_init 102 (.putfield 51) 3 105 := ⟨by decide +kernel, rfl⟩
theorem dX6_init_105 : zD cX6_init 105 (.aload_n 0) 1 106 := ⟨by decide +kernel, rfl⟩
theorem dX6_init_106 : zD cX6_init 106 (.new 55) 3 109 := ⟨by decide +kernel, rfl⟩
theorem dX6_init_109 : zD cX6_init 109 (.dup) 1 110 := ⟨by decide +kernel, rfl⟩
theorem dX6_init_110 : zD cX6_init 110 (.invokespecial 57) 3 113 := ⟨by decide +kernel, rfl⟩
theorem dX6_init_113 : zD cX6_init 113 (.putfield 58) 3 116 := ⟨by decide +kernel, rfl⟩
theorem dX6_init_116 : zD cX6_init 116 (.aload_n 0) 1 117 := ⟨by decide +kernel, rfl⟩
theorem dX6_init_117 : zD cX6_init 117 (.iconst 0) 1 118 := ⟨by decide +kernel, rfl⟩
theorem dX6_init_118 : zD cX6_init 118 (.putfield 62) 3 121 := ⟨by decide +kernel, rfl⟩
theorem dX6_init_121 : zD cX6_init 121 (.return_) 1 122 := ⟨by decide +kernel, rfl⟩
theorem dX6_feed_0 : zD cX6_feed 0 (.iload_n 1) 1 1 := ⟨by decide +kernel, rfl⟩
theorem dX6_feed_1 : zD cX6_feed 1 (.iconst 0) 1 2 := ⟨by decide +kernel, rfl⟩
theorem dX6_feed_2 : zD cX6_feed 2 (.bipush 127) 2 4 := ⟨by decide +kernel, rfl⟩
theorem dX6_feed_4 : zD cX6_feed 4 (.invokestatic 66) 3 7 := ⟨by decide +kernel, rfl⟩
theorem dX6_feed_7 : zJ cX6_feed 7 (fun o => .ifCond .ne o) 12 10 := ⟨5, by decide +kernel, by decide, rfl⟩
theorem dX6_feed_10 : zD cX6_feed 10 (.iconst (-1)) 1 11 := ⟨by decide +kernel, rfl⟩
theorem dX6_feed_11 : zD cX6_feed 11 (.ireturn) 1 12 := ⟨by decide +kernel, rfl⟩
theorem dX6_feed_12 : zD cX6_feed 12 (.aload_n 0) 1 13 := ⟨by decide +kernel, rfl⟩
theorem dX6_feed_13 : zD cX6_feed 13 (.getfield 30) 3 16 := ⟨by decide +kernel, rfl⟩
theorem dX6_feed_16 : zD cX6_feed 16 (.iload_n 1) 1 17 := ⟨by decide +kernel, rfl⟩
theorem dX6_feed_17 : zD cX6_feed 17 (.invokevirtual 70) 3 20 := ⟨by decide +kernel, rfl⟩
theorem dX6_feed_20 : zJ cX6_feed 20 (fun o => .ifCond .eq o) 33 23 := ⟨13, by decide +kernel, by decide, rfl⟩
theorem dX6_feed_23 : zD cX6_feed 23 (.aload_n 0) 1 24 := ⟨by decide +kernel, rfl⟩
theorem dX6_feed_24 : zD cX6_feed 24 (.getfield 30) 3 27 := ⟨by decide +kernel, rfl⟩
theorem dX6_feed_27 : zD cX6_feed 27 (.getfield 74) 3 30 := ⟨by decide +kernel, rfl⟩
theorem dX6_feed_30 : zG cX6_feed 30 35 := ⟨5, by decide +kernel, by decide⟩
theorem dX6_feed_33 : zD cX6_feed 33 (.bipush (-3)) 2 35 := ⟨by decide +kernel, rfl⟩
theorem dX6_feed_35 : zD cX6_feed 35 (.ireturn) 1 36 := ⟨by decide +kernel, rfl⟩
theorem dX6_end_0 : zD cX6_end 0 (.iload_n 1) 1 1 := ⟨by decide +kernel, rfl⟩
theorem dX6_end_1 : zD cX6_end 1 (.iconst 0) 1 2 := ⟨by decide +kernel, rfl⟩
theorem dX6_end_2 : zD cX6_end 2 (.aload_n 0) 1 3 := ⟨by decide +kernel, rfl⟩
theorem dX6_end_3 : zD cX6_end 3 (.getfield 30) 3 6 := ⟨by decide +kernel, rfl⟩
theorem dX6_end_6 : zD cX6_end 6 (.getfield 74) 3 9 := ⟨by decide +kernel, rfl⟩
theorem dX6_end_9 : zD cX6_end 9 (.invokestatic 66) 3 12 := ⟨by decide +kernel, rfl⟩
theorem dX6_end_12 : zJ cX6_end 12 (fun o => .ifCond .ne o) 17 15 := ⟨5, by decide +kernel, by decide, rfl⟩
theorem dX6_end_15 : zD cX6_end 15 (.iconst (-1)) 1 16 := ⟨by decide +kernel, rfl⟩
theorem dX6_end_16 : zD cX6_end 16 (.ireturn) 1 17 := ⟨by decide +kernel, rfl⟩
theorem dX6_end_17 : zD cX6_end 17 (.aload_n 0) 1 18 := ⟨by decide +kernel, rfl⟩
theorem dX6_end_18 : zD cX6_end 18 (.getfield 30) 3 21 := ⟨by decide +kernel, rfl⟩
theorem dX6_end_21 : zD cX6_end 21 (.getfield 74) 3 24 := ⟨by decide +kernel, rfl⟩
theorem dX6_end_24 : zD cX6_end 24 (.istore_n 2) 1 25 := ⟨by decide +kernel, rfl⟩
theorem dX6_end_25 : zD cX6_end 25 (.aload_n 0) 1 26 := ⟨by decide +kernel, rfl⟩
theorem dX6_end_26 : zD cX6_end 26 (.getfield 30) 3 29 := ⟨by decide +kernel, rfl⟩
theorem dX6_end_29 : zD cX6_end 29 (.iload_n 1) 1 30 := ⟨by decide +kernel, rfl⟩
theorem dX6_end_30 : zD cX6_end 30 (.putfield 74) 3 33 := ⟨by decide +kernel, rfl⟩
theorem dX6_end_33 : zD cX6_end 33 (.iload_n 2) 1 34 := ⟨by decide +kernel, rfl⟩
theorem dX6_end_34 : zD cX6_end 34 (.ireturn) 1 35 := ⟨by decide +kernel, rfl⟩
theorem dX6_text_0 : zD cX6_text 0 (.aload_n 0) 1 1 := ⟨by decide +kernel, rfl⟩
theorem dX6_text_1 : zD cX6_text 1 (.getfield 30) 3 4 := ⟨by decide +kernel, rfl⟩
theorem dX6_text_4 : zD cX6_text 4 (.aload_n 0) 1 5 := ⟨by decide +kernel, rfl⟩
theorem dX6_text_5 : zD cX6_text 5 (.getfield 16) 3 8 := ⟨by decide +kernel, rfl⟩
theorem dX6_text_8 : zD cX6_text 8 (.invokevirtual 77) 3 11 := ⟨by decide +kernel, rfl⟩
theorem dX6_text_11 : zD cX6_text 11 (.istore_n 1) 1 12 := ⟨by decide +kernel, rfl⟩
theorem dX6_text_12 : zD cX6_text 12 (.aload_n 0) 1 13 := ⟨by decide +kernel, rfl⟩
theorem dX6_text_13 : zD cX6_text 13 (.getfield 30) 3 16 := ⟨by decide +kernel, rfl⟩
theorem dX6_text_16 : zD cX6_text 16 (.iconst 0) 1 17 := ⟨by decide +kernel, rfl⟩
theorem dX6_text_17 : zD cX6_text 17 (.putfield 74) 3 20 := ⟨by decide +kernel, rfl⟩
theorem dX6_text_20 : zD cX6_text 20 (.iload_n 1) 1 21 := ⟨by decide +kernel, rfl⟩
theorem dX6_text_21 : zJ cX6_text 21 (fun o => .ifCond .ge o) 35 24 := ⟨14, by decide +kernel, by decide, rfl⟩
theorem dX6_text_24 : zD cX6_text 24 (.bipush (-10)) 2 26 := ⟨by decide +kernel, rfl⟩
theorem dX6_text_26 : zD cX6_text 26 (.aload_n 0) 1 27 := ⟨by decide +kernel, rfl⟩
theorem dX6_text_27 : zD cX6_text 27 (.getfield 30) 3 30 := ⟨by decide +kernel, rfl⟩
theorem dX6_text_30 : zD cX6_text 30 (.getfield 81) 3 33 := ⟨by decide +kernel, rfl⟩
theorem dX6_text_33 : zD cX6_text 33 (.isub) 1 34 := ⟨by decide +kernel, rfl⟩
theorem dX6_text_34 : zD cX6_text 34 (.ireturn) 1 35 := ⟨by decide +kernel, rfl⟩
theorem dX6_text_35 : zD cX6_text 35 (.aload_n 0) 1 36 := ⟨by decide +kernel, rfl⟩
theorem dX6_text_36 : zD cX6_text 36 (.getfield 10) 3 39 := ⟨by decide +kernel, rfl⟩
theorem dX6_text_39 : zD cX6_text 39 (.aload_n 0) 1 40 := ⟨by decide +kernel, rfl⟩
theorem dX6_text_40 : zD cX6_text 40 (.getfield 16) 3 43 := ⟨by decide +kernel, rfl⟩
theorem dX6_text_43 : zD cX6_text 43 (.invokevirtual 84) 3 46 := ⟨by decide +kernel, rfl⟩
theorem dX6_text_46 : zD cX6_text 46 (.iconst 0) 1 47 := ⟨by decide +kernel, rfl⟩
theorem dX6_text_47 : zD cX6_text 47 (.istore_n 2) 1 48 := ⟨by decide +kernel, rfl⟩
theorem dX6_text_48 : zD cX6_text 48 (.iload_n 2) 1 49 := ⟨by decide +kernel, rfl⟩
theorem dX6_text_49 : zD cX6_text 49 (.iconst 2) 1 50 := ⟨by decide +kernel, rfl⟩
theorem dX6_text_50 : zJ cX6_text 50 (fun o => .if_icmp .ge o) 66 53 := ⟨16, by decide +kernel, by decide, rfl⟩
theorem dX6_text_53 : zD cX6_text 53 (.aload_n 0) 1 54 := ⟨by decide +kernel, rfl⟩
theorem dX6_text_54 : zD cX6_text 54 (.getfield 23) 3 57 := ⟨by decide +kernel, rfl⟩
theorem dX6_text_57 : zD cX6_text 57 (.iload_n 2) 1 58 := ⟨by decide +kernel, rfl⟩
theorem dX6_text_58 : zD cX6_text 58 (.iconst 0) 1 59 := ⟨by decide +kernel, rfl⟩
theorem dX6_text_59 : zD cX6_text 59 (.bastore) 1 60 := ⟨by decide +kernel, rfl⟩
theorem dX6_text_60 : zD cX6_text 60 (.iinc 2 1) 3 63 := ⟨by decide +kernel, rfl⟩
theorem dX6_text_63 : zG cX6_text 63 48 := ⟨(-15), by decide +kernel, by decide⟩
theorem dX6_text_66 : zD cX6_text 66 (.iload_n 1) 1 67 := ⟨by decide +kernel, rfl⟩
theorem dX6_text_67 : zD cX6_text 67 (.ireturn) 1 68 := ⟨by decide +kernel, rfl⟩
theorem dX6_fault_0 : zD cX6_fault 0 (.aload_n 0) 1 1 := ⟨by decide +kernel, rfl⟩
theorem dX6_fault_1 : zD cX6_fault 1 (.getfield 30) 3 4 := ⟨by decide +kernel, rfl⟩
theorem dX6_fault_4 : zD cX6_fault 4 (.getfield 88) 3 7 := ⟨by decide +kernel, rfl⟩
theorem dX6_fault_7 : zD cX6_fault 7 (.ireturn) 1 8 := ⟨by decide +kernel, rfl⟩
theorem dX6_rule_0 : zD cX6_rule 0 (.iload_n 1) 1 1 := ⟨by decide +kernel, rfl⟩
theorem dX6_rule_1 : zD cX6_rule 1 (.tableswitch 99 0 6 #[43, 51, 59, 67, 75, 83, 91]) 43 44 := ⟨by decide +kernel, rfl⟩
theorem dX6_rule_44 : zD cX6_rule 44 (.aload_n 0) 1 45 := ⟨by decide +kernel, rfl⟩
theorem dX6_rule_45 : zD cX6_rule 45 (.getfield 10) 3 48 := ⟨by decide +kernel, rfl⟩
theorem dX6_rule_48 : zD cX6_rule 48 (.getfield 91) 3 51 := ⟨by decide +kernel, rfl⟩
theorem dX6_rule_51 : zD cX6_rule 51 (.ireturn) 1 52 := ⟨by decide +kernel, rfl⟩
theorem dX6_rule_52 : zD cX6_rule 52 (.aload_n 0) 1 53 := ⟨by decide +kernel, rfl⟩
theorem dX6_rule_53 : zD cX6_rule 53 (.getfield 10) 3 56 := ⟨by decide +kernel, rfl⟩
theorem dX6_rule_56 : zD cX6_rule 56 (.getfield 94) 3 59 := ⟨by decide +kernel, rfl⟩
theorem dX6_rule_59 : zD cX6_rule 59 (.ireturn) 1 60 := ⟨by decide +kernel, rfl⟩
theorem dX6_rule_60 : zD cX6_rule 60 (.aload_n 0) 1 61 := ⟨by decide +kernel, rfl⟩
theorem dX6_rule_61 : zD cX6_rule 61 (.getfield 10) 3 64 := ⟨by decide +kernel, rfl⟩
theorem dX6_rule_64 : zD cX6_rule 64 (.getfield 97) 3 67 := ⟨by decide +kernel, rfl⟩
theorem dX6_rule_67 : zD cX6_rule 67 (.ireturn) 1 68 := ⟨by decide +kernel, rfl⟩
theorem dX6_rule_68 : zD cX6_rule 68 (.aload_n 0) 1 69 := ⟨by decide +kernel, rfl⟩
theorem dX6_rule_69 : zD cX6_rule 69 (.getfield 10) 3 72 := ⟨by decide +kernel, rfl⟩
theorem dX6_rule_72 : zD cX6_rule 72 (.getfield 100) 3 75 := ⟨by decide +kernel, rfl⟩
theorem dX6_rule_75 : zD cX6_rule 75 (.ireturn) 1 76 := ⟨by decide +kernel, rfl⟩
theorem dX6_rule_76 : zD cX6_rule 76 (.aload_n 0) 1 77 := ⟨by decide +kernel, rfl⟩
theorem dX6_rule_77 : zD cX6_rule 77 (.getfield 10) 3 80 := ⟨by decide +kernel, rfl⟩
theorem dX6_rule_80 : zD cX6_rule 80 (.invokevirtual 103) 3 83 := ⟨by decide +kernel, rfl⟩
theorem dX6_rule_83 : zD cX6_rule 83 (.ireturn) 1 84 := ⟨by decide +kernel, rfl⟩
theorem dX6_rule_84 : zD cX6_rule 84 (.aload_n 0) 1 85 := ⟨by decide +kernel, rfl⟩
theorem dX6_rule_85 : zD cX6_rule 85 (.getfield 10) 3 88 := ⟨by decide +kernel, rfl⟩
theorem dX6_rule_88 : zD cX6_rule 88 (.getfield 107) 3 91 := ⟨by decide +kernel, rfl⟩
theorem dX6_rule_91 : zD cX6_rule 91 (.ireturn) 1 92 := ⟨by decide +kernel, rfl⟩
theorem dX6_rule_92 : zD cX6_rule 92 (.aload_n 0) 1 93 := ⟨by decide +kernel, rfl⟩
theorem dX6_rule_93 : zD cX6_rule 93 (.getfield 10) 3 96 := ⟨by decide +kernel, rfl⟩
theorem dX6_rule_96 : zD cX6_rule 96 (.invokevirtual 110) 3 99 := ⟨by decide +kernel, rfl⟩
theorem dX6_rule_99 : zD cX6_rule 99 (.ireturn) 1 100 := ⟨by decide +kernel, rfl⟩
theorem dX6_rule_100 : zD cX6_rule 100 (.iconst (-1)) 1 101 := ⟨by decide +kernel, rfl⟩
theorem dX6_rule_101 : zD cX6_rule 101 (.ireturn) 1 102 := ⟨by decide +kernel, rfl⟩
theorem dX6_field_0 : zD cX6_field 0 (.aload_n 0) 1 1 := ⟨by decide +kernel, rfl⟩
theorem dX6_field_1 : zD cX6_field 1 (.iload_n 1) 1 2 := ⟨by decide +kernel, rfl⟩
theorem dX6_field_2 : zD cX6_field 2 (.invokevirtual 113) 3 5 := ⟨by decide +kernel, rfl⟩
theorem dX6_field_5 : zJ cX6_field 5 (fun o => .ifCond .ne o) 10 8 := ⟨5, by decide +kernel, by decide, rfl⟩
theorem dX6_field_8 : zD cX6_field 8 (.iconst (-1)) 1 9 := ⟨by decide +kernel, rfl⟩
theorem dX6_field_9 : zD cX6_field 9 (.ireturn) 1 10 := ⟨by decide +kernel, rfl⟩
theorem dX6_field_10 : zD cX6_field 10 (.aload_n 0) 1 11 := ⟨by decide +kernel, rfl⟩
theorem dX6_field_11 : zD cX6_field 11 (.getfield 10) 3 14 := ⟨by decide +kernel, rfl⟩
theorem dX6_field_14 : zD cX6_field 14 (.iload_n 1) 1 15 := ⟨by decide +kernel, rfl⟩
theorem dX6_field_15 : zD cX6_field 15 (.invokevirtual 116) 3 18 := ⟨by decide +kernel, rfl⟩
theorem dX6_field_18 : zD cX6_field 18 (.istore_n 3) 1 19 := ⟨by decide +kernel, rfl⟩
theorem dX6_field_19 : zD cX6_field 19 (.iload_n 2) 1 20 := ⟨by decide +kernel, rfl⟩
theorem dX6_field_20 : zD cX6_field 20 (.tableswitch 112 0 5 #[40, 50, 60, 70, 72, 99]) 40 60 := ⟨by decide +kernel, rfl⟩
theorem dX6_field_60 : zD cX6_field 60 (.aload_n 0) 1 61 := ⟨by decide +kernel, rfl⟩
theorem dX6_field_61 : zD cX6_field 61 (.getfield 10) 3 64 := ⟨by decide +kernel, rfl⟩
theorem dX6_field_64 : zD cX6_field 64 (.getfield 120) 3 67 := ⟨by decide +kernel, rfl⟩
theorem dX6_field_67 : zD cX6_field 67 (.iload_n 1) 1 68 := ⟨by decide +kernel, rfl⟩
theorem dX6_field_68 : zD cX6_field 68 (.iaload) 1 69 := ⟨by decide +kernel, rfl⟩
theorem dX6_field_69 : zD cX6_field 69 (.ireturn) 1 70 := ⟨by decide +kernel, rfl⟩
theorem dX6_field_70 : zD cX6_field 70 (.aload_n 0) 1 71 := ⟨by decide +kernel, rfl⟩
theorem dX6_field_71 : zD cX6_field 71 (.getfield 10) 3 74 := ⟨by decide +kernel, rfl⟩
theorem dX6_field_74 : zD cX6_field 74 (.getfield 124) 3 77 := ⟨by decide +kernel, rfl⟩
theorem dX6_field_77 : zD cX6_field 77 (.iload_n 1) 1 78 := ⟨by decide +kernel, rfl⟩
theorem dX6_field_78 : zD cX6_field 78 (.iaload) 1 79 := ⟨by decide +kernel, rfl⟩
theorem dX6_field_79 : zD cX6_field 79 (.ireturn) 1 80 := ⟨by decide +kernel, rfl⟩
theorem dX6_field_80 : zD cX6_field 80 (.aload_n 0) 1 81 := ⟨by decide +kernel, rfl⟩
theorem dX6_field_81 : zD cX6_field 81 (.getfield 10) 3 84 := ⟨by decide +kernel, rfl⟩
theorem dX6_field_84 : zD cX6_field 84 (.getfield 127) 3 87 := ⟨by decide +kernel, rfl⟩
theorem dX6_field_87 : zD cX6_field 87 (.iload_n 1) 1 88 := ⟨by decide +kernel, rfl⟩
theorem dX6_field_88 : zD cX6_field 88 (.iaload) 1 89 := ⟨by decide +kernel, rfl⟩
theorem dX6_field_89 : zD cX6_field 89 (.ireturn) 1 90 := ⟨by decide +kernel, rfl⟩
theorem dX6_field_90 : zD cX6_field 90 (.iload_n 3) 1 91 := ⟨by decide +kernel, rfl⟩
theorem dX6_field_91 : zD cX6_field 91 (.ireturn) 1 92 := ⟨by decide +kernel, rfl⟩
theorem dX6_field_92 : zD cX6_field 92 (.bipush 80) 2 94 := ⟨by decide +kernel, rfl⟩
theorem dX6_field_94 : zD cX6_field 94 (.aload_n 0) 1 95 := ⟨by decide +kernel, rfl⟩
theorem dX6_field_95 : zD cX6_field 95 (.getfield 10) 3 98 := ⟨by decide +kernel, rfl⟩
theorem dX6_field_98 : zD cX6_field 98 (.getfield 120) 3 101 := ⟨by decide +kernel, rfl⟩
theorem dX6_field_101 : zD cX6_field 101 (.iload_n 1) 1 102 := ⟨by decide +kernel, rfl⟩
theorem dX6_field_102 : zD cX6_field 102 (.iaload) 1 103 := ⟨by decide +kernel, rfl⟩
theorem dX6_field_103 : zD cX6_field 103 (.iload_n 3) 1 104 := ⟨by decide +kernel, rfl⟩
theorem dX6_field_104 : zD cX6_field 104 (.aload_n 0) 1 105 := ⟨by decide +kernel, rfl⟩
theorem dX6_field_105 : zD cX6_field 105 (.getfield 10) 3 108 := ⟨by decide +kernel, rfl⟩
theorem dX6_field_108 : zD cX6_field 108 (.getfield 127) 3 111 := ⟨by decide +kernel, rfl⟩
theorem dX6_field_111 : zD cX6_field 111 (.iload_n 1) 1 112 := ⟨by decide +kernel, rfl⟩
theorem dX6_field_112 : zD cX6_field 112 (.iaload) 1 113 := ⟨by decide +kernel, rfl⟩
theorem dX6_field_113 : zD cX6_field 113 (.isub) 1 114 := ⟨by decide +kernel, rfl⟩
theorem dX6_field_114 : zD cX6_field 114 (.invokestatic 130) 3 117 := ⟨by decide +kernel, rfl⟩
theorem dX6_field_117 : zD cX6_field 117 (.iadd) 1 118 := ⟨by decide +kernel, rfl⟩
theorem dX6_field_118 : zD cX6_field 118 (.ireturn) 1 119 := ⟨by decide +kernel, rfl⟩
theorem dX6_field_119 : zD cX6_field 119 (.aload_n 0) 1 120 := ⟨by decide +kernel, rfl⟩
theorem dX6_field_120 : zD cX6_field 120 (.getfield 10) 3 123 := ⟨by decide +kernel, rfl⟩
theorem dX6_field_123 : zD cX6_field 123 (.getfield 120) 3 126 := ⟨by decide +kernel, rfl⟩
theorem dX6_field_126 : zD cX6_field 126 (.iload_n 1) 1 127 := ⟨by decide +kernel, rfl⟩
theorem dX6_field_127 : zD cX6_field 127 (.iaload) 1 128 := ⟨by decide +kernel, rfl⟩
theorem dX6_field_128 : zD cX6_field 128 (.invokestatic 134) 3 131 := ⟨by decide +kernel, rfl⟩
theorem dX6_field_131 : zD cX6_field 131 (.ireturn) 1 132 := ⟨by decide +kernel, rfl⟩
theorem dX6_field_132 : zD cX6_field 132 (.iconst (-1)) 1 133 := ⟨by decide +kernel, rfl⟩
theorem dX6_field_133 : zD cX6_field 133 (.ireturn) 1 134 := ⟨by decide +kernel, rfl⟩
theorem dX6_band_0 : zD cX6_band 0 (.aload_n 0) 1 1 := ⟨by decide +kernel, rfl⟩
theorem dX6_band_1 : zD cX6_band 1 (.iload_n 1) 1 2 := ⟨by decide +kernel, rfl⟩
theorem dX6_band_2 : zD cX6_band 2 (.invokevirtual 137) 3 5 := ⟨by decide +kernel, rfl⟩
theorem dX6_band_5 : zJ cX6_band 5 (fun o => .ifCond .eq o) 17 8 := ⟨12, by decide +kernel, by decide, rfl⟩
theorem dX6_band_8 : zD cX6_band 8 (.iload_n 2) 1 9 := ⟨by decide +kernel, rfl⟩
theorem dX6_band_9 : zD cX6_band 9 (.iconst 0) 1 10 := ⟨by decide +kernel, rfl⟩
theorem dX6_band_10 : zD cX6_band 10 (.iconst 1) 1 11 := ⟨by decide +kernel, rfl⟩
theorem dX6_band_11 : zD cX6_band 11 (.invokestatic 66) 3 14 := ⟨by decide +kernel, rfl⟩
theorem dX6_band_14 : zJ cX6_band 14 (fun o => .ifCond .ne o) 19 17 := ⟨5, by decide +kernel, by decide, rfl⟩
theorem dX6_band_17 : zD cX6_band 17 (.iconst (-1)) 1 18 := ⟨by decide +kernel, rfl⟩
theorem dX6_band_18 : zD cX6_band 18 (.ireturn) 1 19 := ⟨by decide +kernel, rfl⟩
theorem dX6_band_19 : zD cX6_band 19 (.iload_n 2) 1 20 := ⟨by decide +kernel, rfl⟩
theorem dX6_band_20 : zJ cX6_band 20 (fun o => .ifCond .ne o) 35 23 := ⟨15, by decide +kernel, by decide, rfl⟩
theorem dX6_band_23 : zD cX6_band 23 (.aload_n 0) 1 24 := ⟨by decide +kernel, rfl⟩
theorem dX6_band_24 : zD cX6_band 24 (.getfield 10) 3 27 := ⟨by decide +kernel, rfl⟩
theorem dX6_band_27 : zD cX6_band 27 (.getfield 140) 3 30 := ⟨by decide +kernel, rfl⟩
theorem dX6_band_30 : zD cX6_band 30 (.iload_n 1) 1 31 := ⟨by decide +kernel, rfl⟩
theorem dX6_band_31 : zD cX6_band 31 (.iaload) 1 32 := ⟨by decide +kernel, rfl⟩
theorem dX6_band_32 : zG cX6_band 32 44 := ⟨12, by decide +kernel, by decide⟩
theorem dX6_band_35 : zD cX6_band 35 (.aload_n 0) 1 36 := ⟨by decide +kernel, rfl⟩
theorem dX6_band_36 : zD cX6_band 36 (.getfield 10) 3 39 := ⟨by decide +kernel, rfl⟩
theorem dX6_band_39 : zD cX6_band 39 (.getfield 143) 3 42 := ⟨by decide +kernel, rfl⟩
theorem dX6_band_42 : zD cX6_band 42 (.iload_n 1) 1 43 := ⟨by decide +kernel, rfl⟩
theorem dX6_band_43 : zD cX6_band 43 (.iaload) 1 44 := ⟨by decide +kernel, rfl⟩
theorem dX6_band_44 : zD cX6_band 44 (.ireturn) 1 45 := ⟨by decide +kernel, rfl⟩
theorem dX6_alter_0 : zD cX6_alter 0 (.aload_n 0) 1 1 := ⟨by decide +kernel, rfl⟩
theorem dX6_alter_1 : zD cX6_alter 1 (.iload_n 1) 1 2 := ⟨by decide +kernel, rfl⟩
theorem dX6_alter_2 : zD cX6_alter 2 (.invokevirtual 113) 3 5 := ⟨by decide +kernel, rfl⟩
theorem dX6_alter_5 : zJ cX6_alter 5 (fun o => .ifCond .ne o) 10 8 := ⟨5, by decide +kernel, by decide, rfl⟩
theorem dX6_alter_8 : zD cX6_alter 8 (.iconst (-1)) 1 9 := ⟨by decide +kernel, rfl⟩
theorem dX6_alter_9 : zD cX6_alter 9 (.ireturn) 1 10 := ⟨by decide +kernel, rfl⟩
theorem dX6_alter_10 : zD cX6_alter 10 (.iload_n 2) 1 11 := ⟨by decide +kernel, rfl⟩
theorem dX6_alter_11 : zD cX6_alter 11 (.tableswitch 69 0 2 #[25, 39, 54]) 25 36 := ⟨by decide +kernel, rfl⟩
theorem dX6_alter_36 : zD cX6_alter 36 (.aload_n 0) 1 37 := ⟨by decide +kernel, rfl⟩
theorem dX6_alter_37 : zD cX6_alter 37 (.getfield 10) 3 40 := ⟨by decide +kernel, rfl⟩
theorem dX6_alter_40 : zD cX6_alter 40 (.getfield 120) 3 43 := ⟨by decide +kernel, rfl⟩
theorem dX6_alter_43 : zD cX6_alter 43 (.iload_n 1) 1 44 := ⟨by decide +kernel, rfl⟩
theorem dX6_alter_44 : zD cX6_alter 44 (.iload_n 3) 1 45 := ⟨by decide +kernel, rfl⟩
theorem dX6_alter_45 : zD cX6_alter 45 (.iconst 3) 1 46 := ⟨by decide +kernel, rfl⟩
theorem dX6_alter_46 : zD cX6_alter 46 (.invokestatic 146) 3 49 := ⟨by decide +kernel, rfl⟩
theorem dX6_alter_49 : zD cX6_alter 49 (.ireturn) 1 50 := ⟨by decide +kernel, rfl⟩
theorem dX6_alter_50 : zD cX6_alter 50 (.aload_n 0) 1 51 := ⟨by decide +kernel, rfl⟩
theorem dX6_alter_51 : zD cX6_alter 51 (.getfield 10) 3 54 := ⟨by decide +kernel, rfl⟩
theorem dX6_alter_54 : zD cX6_alter 54 (.getfield 124) 3 57 := ⟨by decide +kernel, rfl⟩
theorem dX6_alter_57 : zD cX6_alter 57 (.iload_n 1) 1 58 := ⟨by decide +kernel, rfl⟩
theorem dX6_alter_58 : zD cX6_alter 58 (.iload_n 3) 1 59 := ⟨by decide +kernel, rfl⟩
theorem dX6_alter_59 : zD cX6_alter 59 (.bipush 99) 2 61 := ⟨by decide +kernel, rfl⟩
theorem dX6_alter_61 : zD cX6_alter 61 (.invokestatic 146) 3 64 := ⟨by decide +kernel, rfl⟩
theorem dX6_alter_64 : zD cX6_alter 64 (.ireturn) 1 65 := ⟨by decide +kernel, rfl⟩
theorem dX6_alter_65 : zD cX6_alter 65 (.aload_n 0) 1 66 := ⟨by decide +kernel, rfl⟩
theorem dX6_alter_66 : zD cX6_alter 66 (.getfield 10) 3 69 := ⟨by decide +kernel, rfl⟩
theorem dX6_alter_69 : zD cX6_alter 69 (.getfield 127) 3 72 := ⟨by decide +kernel, rfl⟩
theorem dX6_alter_72 : zD cX6_alter 72 (.iload_n 1) 1 73 := ⟨by decide +kernel, rfl⟩
theorem dX6_alter_73 : zD cX6_alter 73 (.iload_n 3) 1 74 := ⟨by decide +kernel, rfl⟩
theorem dX6_alter_74 : zD cX6_alter 74 (.bipush 9) 2 76 := ⟨by decide +kernel, rfl⟩
theorem dX6_alter_76 : zD cX6_alter 76 (.invokestatic 146) 3 79 := ⟨by decide +kernel, rfl⟩
theorem dX6_alter_79 : zD cX6_alter 79 (.ireturn) 1 80 := ⟨by decide +kernel, rfl⟩
theorem dX6_alter_80 : zD cX6_alter 80 (.iconst (-1)) 1 81 := ⟨by decide +kernel, rfl⟩
theorem dX6_alter_81 : zD cX6_alter 81 (.ireturn) 1 82 := ⟨by decide +kernel, rfl⟩
theorem dX6_replace_0 : zD cX6_replace 0 (.iload_n 2) 1 1 := ⟨by decide +kernel, rfl⟩
theorem dX6_replace_1 : zD cX6_replace 1 (.iconst 0) 1 2 := ⟨by decide +kernel, rfl⟩
theorem dX6_replace_2 : zD cX6_replace 2 (.iload_n 3) 1 3 := ⟨by decide +kernel, rfl⟩
theorem dX6_replace_3 : zD cX6_replace 3 (.invokestatic 66) 3 6 := ⟨by decide +kernel, rfl⟩
theorem dX6_replace_6 : zJ cX6_replace 6 (fun o => .ifCond .eq o) 21 9 := ⟨15, by decide +kernel, by decide, rfl⟩
theorem dX6_replace_9 : zD cX6_replace 9 (.iload_n 1) 1 10 := ⟨by decide +kernel, rfl⟩
theorem dX6_replace_10 : zD cX6_replace 10 (.iconst 0) 1 11 := ⟨by decide +kernel, rfl⟩
theorem dX6_replace_11 : zD cX6_replace 11 (.aload_n 0) 1 12 := ⟨by decide +kernel, rfl⟩
theorem dX6_replace_12 : zD cX6_replace 12 (.arraylength) 1 13 := ⟨by decide +kernel, rfl⟩
theorem dX6_replace_13 : zD cX6_replace 13 (.iconst 1) 1 14 := ⟨by decide +kernel, rfl⟩
theorem dX6_replace_14 : zD cX6_replace 14 (.isub) 1 15 := ⟨by decide +kernel, rfl⟩
theorem dX6_replace_15 : zD cX6_replace 15 (.invokestatic 66) 3 18 := ⟨by decide +kernel, rfl⟩
theorem dX6_replace_18 : zJ cX6_replace 18 (fun o => .ifCond .ne o) 23 21 := ⟨5, by decide +kernel, by decide, rfl⟩
theorem dX6_replace_21 : zD cX6_replace 21 (.iconst (-1)) 1 22 := ⟨by decide +kernel, rfl⟩
theorem dX6_replace_22 : zD cX6_replace 22 (.ireturn) 1 23 := ⟨by decide +kernel, rfl⟩
theorem dX6_replace_23 : zD cX6_replace 23 (.aload_n 0) 1 24 := ⟨by decide +kernel, rfl⟩
theorem dX6_replace_24 : zD cX6_replace 24 (.iload_n 1) 1 25 := ⟨by decide +kernel, rfl⟩
theorem dX6_replace_25 : zD cX6_replace 25 (.iaload) 1 26 := ⟨by decide +kernel, rfl⟩
theorem dX6_replace_26 : zD cX6_replace 26 (.istore 4) 2 28 := ⟨by decide +kernel, rfl⟩
theorem dX6_replace_28 : zD cX6_replace 28 (.aload_n 0) 1 29 := ⟨by decide +kernel, rfl⟩
theorem dX6_replace_29 : zD cX6_replace 29 (.iload_n 1) 1 30 := ⟨by decide +kernel, rfl⟩
theorem dX6_replace_30 : zD cX6_replace 30 (.iload_n 2) 1 31 := ⟨by decide +kernel, rfl⟩
theorem dX6_replace_31 : zD cX6_replace 31 (.iastore) 1 32 := ⟨by decide +kernel, rfl⟩
theorem dX6_replace_32 : zD cX6_replace 32 (.iload 4) 2 34 := ⟨by decide +kernel, rfl⟩
theorem dX6_replace_34 : zD cX6_replace 34 (.ireturn) 1 35 := ⟨by decide +kernel, rfl⟩
theorem dX6_march_0 : zD cX6_march 0 (.aload_n 0) 1 1 := ⟨by decide +kernel, rfl⟩
theorem dX6_march_1 : zD cX6_march 1 (.iload_n 1) 1 2 := ⟨by decide +kernel, rfl⟩
theorem dX6_march_2 : zD cX6_march 2 (.invokevirtual 137) 3 5 := ⟨by decide +kernel, rfl⟩
theorem dX6_march_5 : zJ cX6_march 5 (fun o => .ifCond .eq o) 16 8 := ⟨11, by decide +kernel, by decide, rfl⟩
theorem dX6_march_8 : zD cX6_march 8 (.aload_n 0) 1 9 := ⟨by decide +kernel, rfl⟩
theorem dX6_march_9 : zD cX6_march 9 (.iload_n 2) 1 10 := ⟨by decide +kernel, rfl⟩
theorem dX6_march_10 : zD cX6_march 10 (.invokevirtual 113) 3 13 := ⟨by decide +kernel, rfl⟩
theorem dX6_march_13 : zJ cX6_march 13 (fun o => .ifCond .ne o) 18 16 := ⟨5, by decide +kernel, by decide, rfl⟩
theorem dX6_march_16 : zD cX6_march 16 (.iconst (-1)) 1 17 := ⟨by decide +kernel, rfl⟩
theorem dX6_march_17 : zD cX6_march 17 (.ireturn) 1 18 := ⟨by decide +kernel, rfl⟩
theorem dX6_march_18 : zD cX6_march 18 (.aload_n 0) 1 19 := ⟨by decide +kernel, rfl⟩
theorem dX6_march_19 : zD cX6_march 19 (.getfield 10) 3 22 := ⟨by decide +kernel, rfl⟩
theorem dX6_march_22 : zD cX6_march 22 (.getfield 140) 3 25 := ⟨by decide +kernel, rfl⟩
theorem dX6_march_25 : zD cX6_march 25 (.iload_n 1) 1 26 := ⟨by decide +kernel, rfl⟩
theorem dX6_march_26 : zD cX6_march 26 (.iaload) 1 27 := ⟨by decide +kernel, rfl⟩
theorem dX6_march_27 : zD cX6_march 27 (.istore_n 3) 1 28 := ⟨by decide +kernel, rfl⟩
theorem dX6_march_28 : zD cX6_march 28 (.aload_n 0) 1 29 := ⟨by decide +kernel, rfl⟩
theorem dX6_march_29 : zD cX6_march 29 (.getfield 10) 3 32 := ⟨by decide +kernel, rfl⟩
theorem dX6_march_32 : zD cX6_march 32 (.getfield 140) 3 35 := ⟨by decide +kernel, rfl⟩
theorem dX6_march_35 : zD cX6_march 35 (.iload_n 1) 1 36 := ⟨by decide +kernel, rfl⟩
theorem dX6_march_36 : zD cX6_march 36 (.iload_n 2) 1 37 := ⟨by decide +kernel, rfl⟩
theorem dX6_march_37 : zD cX6_march 37 (.iastore) 1 38 := ⟨by decide +kernel, rfl⟩
theorem dX6_march_38 : zD cX6_march 38 (.iload_n 3) 1 39 := ⟨by decide +kernel, rfl⟩
theorem dX6_march_39 : zD cX6_march 39 (.ireturn) 1 40 := ⟨by decide +kernel, rfl⟩
theorem dX6_play_0 : zD cX6_play 0 (.aload_n 0) 1 1 := ⟨by decide +kernel, rfl⟩
theorem dX6_play_1 : zD cX6_play 1 (.iload_n 1) 1 2 := ⟨by decide +kernel, rfl⟩
theorem dX6_play_2 : zD cX6_play 2 (.invokevirtual 137) 3 5 := ⟨by decide +kernel, rfl⟩
theorem dX6_play_5 : zJ cX6_play 5 (fun o => .ifCond .eq o) 18 8 := ⟨13, by decide +kernel, by decide, rfl⟩
theorem dX6_play_8 : zD cX6_play 8 (.iload_n 2) 1 9 := ⟨by decide +kernel, rfl⟩
theorem dX6_play_9 : zD cX6_play 9 (.iconst 1) 1 10 := ⟨by decide +kernel, rfl⟩
theorem dX6_play_10 : zD cX6_play 10 (.bipush 9) 2 12 := ⟨by decide +kernel, rfl⟩
theorem dX6_play_12 : zD cX6_play 12 (.invokestatic 66) 3 15 := ⟨by decide +kernel, rfl⟩
theorem dX6_play_15 : zJ cX6_play 15 (fun o => .ifCond .ne o) 20 18 := ⟨5, by decide +kernel, by decide, rfl⟩
theorem dX6_play_18 : zD cX6_play 18 (.iconst (-1)) 1 19 := ⟨by decide +kernel, rfl⟩
theorem dX6_play_19 : zD cX6_play 19 (.ireturn) 1 20 := ⟨by decide +kernel, rfl⟩
theorem dX6_play_20 : zD cX6_play 20 (.aload_n 0) 1 21 := ⟨by decide +kernel, rfl⟩
theorem dX6_play_21 : zD cX6_play 21 (.getfield 10) 3 24 := ⟨by decide +kernel, rfl⟩
theorem dX6_play_24 : zD cX6_play 24 (.getfield 143) 3 27 := ⟨by decide +kernel, rfl⟩
theorem dX6_play_27 : zD cX6_play 27 (.iload_n 1) 1 28 := ⟨by decide +kernel, rfl⟩
theorem dX6_play_28 : zD cX6_play 28 (.iaload) 1 29 := ⟨by decide +kernel, rfl⟩
theorem dX6_play_29 : zD cX6_play 29 (.istore_n 3) 1 30 := ⟨by decide +kernel, rfl⟩
theorem dX6_play_30 : zD cX6_play 30 (.aload_n 0) 1 31 := ⟨by decide +kernel, rfl⟩
theorem dX6_play_31 : zD cX6_play 31 (.getfield 10) 3 34 := ⟨by decide +kernel, rfl⟩
theorem dX6_play_34 : zD cX6_play 34 (.getfield 143) 3 37 := ⟨by decide +kernel, rfl⟩
theorem dX6_play_37 : zD cX6_play 37 (.iload_n 1) 1 38 := ⟨by decide +kernel, rfl⟩
theorem dX6_play_38 : zD cX6_play 38 (.iload_n 2) 1 39 := ⟨by decide +kernel, rfl⟩
theorem dX6_play_39 : zD cX6_play 39 (.iastore) 1 40 := ⟨by decide +kernel, rfl⟩
theorem dX6_play_40 : zD cX6_play 40 (.iload_n 3) 1 41 := ⟨by decide +kernel, rfl⟩
theorem dX6_play_41 : zD cX6_play 41 (.ireturn) 1 42 := ⟨by decide +kernel, rfl⟩
theorem dX6_glut_0 : zD cX6_glut 0 (.iload_n 1) 1 1 := ⟨by decide +kernel, rfl⟩
theorem dX6_glut_1 : zD cX6_glut 1 (.iconst 1) 1 2 := ⟨by decide +kernel, rfl⟩
theorem dX6_glut_2 : zD cX6_glut 2 (.bipush 99) 2 4 := ⟨by decide +kernel, rfl⟩
theorem dX6_glut_4 : zD cX6_glut 4 (.invokestatic 66) 3 7 := ⟨by decide +kernel, rfl⟩
theorem dX6_glut_7 : zJ cX6_glut 7 (fun o => .ifCond .ne o) 12 10 := ⟨5, by decide +kernel, by decide, rfl⟩
theorem dX6_glut_10 : zD cX6_glut 10 (.iconst (-1)) 1 11 := ⟨by decide +kernel, rfl⟩
theorem dX6_glut_11 : zD cX6_glut 11 (.ireturn) 1 12 := ⟨by decide +kernel, rfl⟩
theorem dX6_glut_12 : zD cX6_glut 12 (.aload_n 0) 1 13 := ⟨by decide +kernel, rfl⟩
theorem dX6_glut_13 : zD cX6_glut 13 (.getfield 10) 3 16 := ⟨by decide +kernel, rfl⟩
theorem dX6_glut_16 : zD cX6_glut 16 (.getfield 107) 3 19 := ⟨by decide +kernel, rfl⟩
theorem dX6_glut_19 : zD cX6_glut 19 (.istore_n 2) 1 20 := ⟨by decide +kernel, rfl⟩
theorem dX6_glut_20 : zD cX6_glut 20 (.aload_n 0) 1 21 := ⟨by decide +kernel, rfl⟩
theorem dX6_glut_21 : zD cX6_glut 21 (.getfield 10) 3 24 := ⟨by decide +kernel, rfl⟩
theorem dX6_glut_24 : zD cX6_glut 24 (.iload_n 1) 1 25 := ⟨by decide +kernel, rfl⟩
theorem dX6_glut_25 : zD cX6_glut 25 (.putfield 107) 3 28 := ⟨by decide +kernel, rfl⟩
theorem dX6_glut_28 : zD cX6_glut 28 (.iload_n 2) 1 29 := ⟨by decide +kernel, rfl⟩
theorem dX6_glut_29 : zD cX6_glut 29 (.ireturn) 1 30 := ⟨by decide +kernel, rfl⟩
theorem dX6_hire_0 : zD cX6_hire 0 (.aload_n 0) 1 1 := ⟨by decide +kernel, rfl⟩
theorem dX6_hire_1 : zD cX6_hire 1 (.iload_n 1) 1 2 := ⟨by decide +kernel, rfl⟩
theorem dX6_hire_2 : zD cX6_hire 2 (.invokevirtual 113) 3 5 := ⟨by decide +kernel, rfl⟩
theorem dX6_hire_5 : zJ cX6_hire 5 (fun o => .ifCond .eq o) 18 8 := ⟨13, by decide +kernel, by decide, rfl⟩
theorem dX6_hire_8 : zD cX6_hire 8 (.iload_n 2) 1 9 := ⟨by decide +kernel, rfl⟩
theorem dX6_hire_9 : zD cX6_hire 9 (.iconst 1) 1 10 := ⟨by decide +kernel, rfl⟩
theorem dX6_hire_10 : zD cX6_hire 10 (.bipush 9) 2 12 := ⟨by decide +kernel, rfl⟩
theorem dX6_hire_12 : zD cX6_hire 12 (.invokestatic 66) 3 15 := ⟨by decide +kernel, rfl⟩
theorem dX6_hire_15 : zJ cX6_hire 15 (fun o => .ifCond .ne o) 20 18 := ⟨5, by decide +kernel, by decide, rfl⟩
theorem dX6_hire_18 : zD cX6_hire 18 (.iconst (-1)) 1 19 := ⟨by decide +kernel, rfl⟩
theorem dX6_hire_19 : zD cX6_hire 19 (.ireturn) 1 20 := ⟨by decide +kernel, rfl⟩
theorem dX6_hire_20 : zD cX6_hire 20 (.aload_n 0) 1 21 := ⟨by decide +kernel, rfl⟩
theorem dX6_hire_21 : zD cX6_hire 21 (.getfield 10) 3 24 := ⟨by decide +kernel, rfl⟩
theorem dX6_hire_24 : zD cX6_hire 24 (.iload_n 1) 1 25 := ⟨by decide +kernel, rfl⟩
theorem dX6_hire_25 : zD cX6_hire 25 (.iload_n 2) 1 26 := ⟨by decide +kernel, rfl⟩
theorem dX6_hire_26 : zD cX6_hire 26 (.invokevirtual 150) 3 29 := ⟨by decide +kernel, rfl⟩
theorem dX6_hire_29 : zJ cX6_hire 29 (fun o => .ifCond .eq o) 42 32 := ⟨13, by decide +kernel, by decide, rfl⟩
theorem dX6_hire_32 : zD cX6_hire 32 (.aload_n 0) 1 33 := ⟨by decide +kernel, rfl⟩
theorem dX6_hire_33 : zD cX6_hire 33 (.getfield 10) 3 36 := ⟨by decide +kernel, rfl⟩
theorem dX6_hire_36 : zD cX6_hire 36 (.getfield 94) 3 39 := ⟨by decide +kernel, rfl⟩
theorem dX6_hire_39 : zG cX6_hire 39 44 := ⟨5, by decide +kernel, by decide⟩
theorem dX6_hire_42 : zD cX6_hire 42 (.bipush (-3)) 2 44 := ⟨by decide +kernel, rfl⟩
theorem dX6_hire_44 : zD cX6_hire 44 (.ireturn) 1 45 := ⟨by decide +kernel, rfl⟩
theorem dX6_leave_0 : zD cX6_leave 0 (.iload_n 1) 1 1 := ⟨by decide +kernel, rfl⟩
theorem dX6_leave_1 : zD cX6_leave 1 (.iconst 0) 1 2 := ⟨by decide +kernel, rfl⟩
theorem dX6_leave_2 : zD cX6_leave 2 (.aload_n 0) 1 3 := ⟨by decide +kernel, rfl⟩
theorem dX6_leave_3 : zD cX6_leave 3 (.getfield 10) 3 6 := ⟨by decide +kernel, rfl⟩
theorem dX6_leave_6 : zD cX6_leave 6 (.getfield 94) 3 9 := ⟨by decide +kernel, rfl⟩
theorem dX6_leave_9 : zD cX6_leave 9 (.invokestatic 66) 3 12 := ⟨by decide +kernel, rfl⟩
theorem dX6_leave_12 : zJ cX6_leave 12 (fun o => .ifCond .ne o) 17 15 := ⟨5, by decide +kernel, by decide, rfl⟩
theorem dX6_leave_15 : zD cX6_leave 15 (.iconst (-1)) 1 16 := ⟨by decide +kernel, rfl⟩
theorem dX6_leave_16 : zD cX6_leave 16 (.ireturn) 1 17 := ⟨by decide +kernel, rfl⟩
theorem dX6_leave_17 : zD cX6_leave 17 (.aload_n 0) 1 18 := ⟨by decide +kernel, rfl⟩
theorem dX6_leave_18 : zD cX6_leave 18 (.getfield 10) 3 21 := ⟨by decide +kernel, rfl⟩
theorem dX6_leave_21 : zD cX6_leave 21 (.getfield 94) 3 24 := ⟨by decide +kernel, rfl⟩
theorem dX6_leave_24 : zD cX6_leave 24 (.istore_n 2) 1 25 := ⟨by decide +kernel, rfl⟩
theorem dX6_leave_25 : zD cX6_leave 25 (.aload_n 0) 1 26 := ⟨by decide +kernel, rfl⟩
theorem dX6_leave_26 : zD cX6_leave 26 (.getfield 10) 3 29 := ⟨by decide +kernel, rfl⟩
theorem dX6_leave_29 : zD cX6_leave 29 (.iload_n 1) 1 30 := ⟨by decide +kernel, rfl⟩
theorem dX6_leave_30 : zD cX6_leave 30 (.putfield 94) 3 33 := ⟨by decide +kernel, rfl⟩
theorem dX6_leave_33 : zD cX6_leave 33 (.iload_n 2) 1 34 := ⟨by decide +kernel, rfl⟩
theorem dX6_leave_34 : zD cX6_leave 34 (.ireturn) 1 35 := ⟨by decide +kernel, rfl⟩
theorem dX6_weeks_0 : zD cX6_weeks 0 (.iload_n 1) 1 1 := ⟨by decide +kernel, rfl⟩
theorem dX6_weeks_1 : zD cX6_weeks 1 (.iconst 0) 1 2 := ⟨by decide +kernel, rfl⟩
theorem dX6_weeks_2 : zD cX6_weeks 2 (.bipush 30) 2 4 := ⟨by decide +kernel, rfl⟩
theorem dX6_weeks_4 : zD cX6_weeks 4 (.invokestatic 66) 3 7 := ⟨by decide +kernel, rfl⟩
theorem dX6_weeks_7 : zJ cX6_weeks 7 (fun o => .ifCond .ne o) 12 10 := ⟨5, by decide +kernel, by decide, rfl⟩
theorem dX6_weeks_10 : zD cX6_weeks 10 (.iconst (-1)) 1 11 := ⟨by decide +kernel, rfl⟩
theorem dX6_weeks_11 : zD cX6_weeks 11 (.ireturn) 1 12 := ⟨by decide +kernel, rfl⟩
theorem dX6_weeks_12 : zD cX6_weeks 12 (.aload_n 0) 1 13 := ⟨by decide +kernel, rfl⟩
theorem dX6_weeks_13 : zD cX6_weeks 13 (.getfield 10) 3 16 := ⟨by decide +kernel, rfl⟩
theorem dX6_weeks_16 : zD cX6_weeks 16 (.getfield 97) 3 19 := ⟨by decide +kernel, rfl⟩
theorem dX6_weeks_19 : zD cX6_weeks 19 (.iload_n 1) 1 20 := ⟨by decide +kernel, rfl⟩
theorem dX6_weeks_20 : zD cX6_weeks 20 (.iadd) 1 21 := ⟨by decide +kernel, rfl⟩
theorem dX6_weeks_21 : zD cX6_weeks 21 (.sipush 1000) 3 24 := ⟨by decide +kernel, rfl⟩
theorem dX6_weeks_24 : zJ cX6_weeks 24 (fun o => .if_icmp .lt o) 30 27 := ⟨6, by decide +kernel, by decide, rfl⟩
theorem dX6_weeks_27 : zD cX6_weeks 27 (.bipush (-3)) 2 29 := ⟨by decide +kernel, rfl⟩
theorem dX6_weeks_29 : zD cX6_weeks 29 (.ireturn) 1 30 := ⟨by decide +kernel, rfl⟩
theorem dX6_weeks_30 : zD cX6_weeks 30 (.aload_n 0) 1 31 := ⟨by decide +kernel, rfl⟩
theorem dX6_weeks_31 : zD cX6_weeks 31 (.getfield 10) 3 34 := ⟨by decide +kernel, rfl⟩
theorem dX6_weeks_34 : zD cX6_weeks 34 (.iload_n 1) 1 35 := ⟨by decide +kernel, rfl⟩
theorem dX6_weeks_35 : zD cX6_weeks 35 (.invokevirtual 154) 3 38 := ⟨by decide +kernel, rfl⟩
theorem dX6_weeks_38 : zD cX6_weeks 38 (.pop) 1 39 := ⟨by decide +kernel, rfl⟩
theorem dX6_weeks_39 : zD cX6_weeks 39 (.aload_n 0) 1 40 := ⟨by decide +kernel, rfl⟩
theorem dX6_weeks_40 : zD cX6_weeks 40 (.getfield 10) 3 43 := ⟨by decide +kernel, rfl⟩
theorem dX6_weeks_43 : zD cX6_weeks 43 (.invokevirtual 103) 3 46 := ⟨by decide +kernel, rfl⟩
theorem dX6_weeks_46 : zD cX6_weeks 46 (.ireturn) 1 47 := ⟨by decide +kernel, rfl⟩
theorem dX6_runs_0 : zD cX6_runs 0 (.iload_n 1) 1 1 := ⟨by decide +kernel, rfl⟩
theorem dX6_runs_1 : zD cX6_runs 1 (.iconst 0) 1 2 := ⟨by decide +kernel, rfl⟩
theorem dX6_runs_2 : zD cX6_runs 2 (.bipush 60) 2 4 := ⟨by decide +kernel, rfl⟩
theorem dX6_runs_4 : zD cX6_runs 4 (.invokestatic 66) 3 7 := ⟨by decide +kernel, rfl⟩
theorem dX6_runs_7 : zJ cX6_runs 7 (fun o => .ifCond .eq o) 19 10 := ⟨12, by decide +kernel, by decide, rfl⟩
theorem dX6_runs_10 : zD cX6_runs 10 (.iload_n 2) 1 11 := ⟨by decide +kernel, rfl⟩
theorem dX6_runs_11 : zD cX6_runs 11 (.iconst 0) 1 12 := ⟨by decide +kernel, rfl⟩
theorem dX6_runs_12 : zD cX6_runs 12 (.iconst 4) 1 13 := ⟨by decide +kernel, rfl⟩
theorem dX6_runs_13 : zD cX6_runs 13 (.invokestatic 66) 3 16 := ⟨by decide +kernel, rfl⟩
theorem dX6_runs_16 : zJ cX6_runs 16 (fun o => .ifCond .ne o) 21 19 := ⟨5, by decide +kernel, by decide, rfl⟩
theorem dX6_runs_19 : zD cX6_runs 19 (.iconst (-1)) 1 20 := ⟨by decide +kernel, rfl⟩
theorem dX6_runs_20 : zD cX6_runs 20 (.ireturn) 1 21 := ⟨by decide +kernel, rfl⟩
theorem dX6_runs_21 : zD cX6_runs 21 (.aload_n 0) 1 22 := ⟨by decide +kernel, rfl⟩
theorem dX6_runs_22 : zD cX6_runs 22 (.getfield 16) 3 25 := ⟨by decide +kernel, rfl⟩
theorem dX6_runs_25 : zD cX6_runs 25 (.aload_n 0) 1 26 := ⟨by decide +kernel, rfl⟩
theorem dX6_runs_26 : zD cX6_runs 26 (.getfield 10) 3 29 := ⟨by decide +kernel, rfl⟩
theorem dX6_runs_29 : zD cX6_runs 29 (.invokevirtual 84) 3 32 := ⟨by decide +kernel, rfl⟩
theorem dX6_runs_32 : zD cX6_runs 32 (.aload_n 0) 1 33 := ⟨by decide +kernel, rfl⟩
theorem dX6_runs_33 : zD cX6_runs 33 (.getfield 16) 3 36 := ⟨by decide +kernel, rfl⟩
theorem dX6_runs_36 : zD cX6_runs 36 (.iload_n 1) 1 37 := ⟨by decide +kernel, rfl⟩
theorem dX6_runs_37 : zD cX6_runs 37 (.invokevirtual 154) 3 40 := ⟨by decide +kernel, rfl⟩
theorem dX6_runs_40 : zD cX6_runs 40 (.istore_n 3) 1 41 := ⟨by decide +kernel, rfl⟩
theorem dX6_runs_41 : zD cX6_runs 41 (.iload_n 2) 1 42 := ⟨by decide +kernel, rfl⟩
theorem dX6_runs_42 : zD cX6_runs 42 (.tableswitch 56 0 3 #[30, 38, 46, 54]) 30 72 := ⟨by decide +kernel, rfl⟩
theorem dX6_runs_72 : zD cX6_runs 72 (.aload_n 0) 1 73 := ⟨by decide +kernel, rfl⟩
theorem dX6_runs_73 : zD cX6_runs 73 (.getfield 16) 3 76 := ⟨by decide +kernel, rfl⟩
theorem dX6_runs_76 : zD cX6_runs 76 (.invokevirtual 103) 3 79 := ⟨by decide +kernel, rfl⟩
theorem dX6_runs_79 : zD cX6_runs 79 (.ireturn) 1 80 := ⟨by decide +kernel, rfl⟩
theorem dX6_runs_80 : zD cX6_runs 80 (.aload_n 0) 1 81 := ⟨by decide +kernel, rfl⟩
theorem dX6_runs_81 : zD cX6_runs 81 (.getfield 16) 3 84 := ⟨by decide +kernel, rfl⟩
theorem dX6_runs_84 : zD cX6_runs 84 (.getfield 100) 3 87 := ⟨by decide +kernel, rfl⟩
theorem dX6_runs_87 : zD cX6_runs 87 (.ireturn) 1 88 := ⟨by decide +kernel, rfl⟩
theorem dX6_runs_88 : zD cX6_runs 88 (.aload_n 0) 1 89 := ⟨by decide +kernel, rfl⟩
theorem dX6_runs_89 : zD cX6_runs 89 (.getfield 16) 3 92 := ⟨by decide +kernel, rfl⟩
theorem dX6_runs_92 : zD cX6_runs 92 (.invokevirtual 157) 3 95 := ⟨by decide +kernel, rfl⟩
theorem dX6_runs_95 : zD cX6_runs 95 (.ireturn) 1 96 := ⟨by decide +kernel, rfl⟩
theorem dX6_runs_96 : zD cX6_runs 96 (.iload_n 3) 1 97 := ⟨by decide +kernel, rfl⟩
theorem dX6_runs_97 : zD cX6_runs 97 (.ireturn) 1 98 := ⟨by decide +kernel, rfl⟩
theorem dX6_runs_98 : zD cX6_runs 98 (.aload_n 0) 1 99 := ⟨by decide +kernel, rfl⟩
theorem dX6_runs_99 : zD cX6_runs 99 (.getfield 16) 3 102 := ⟨by decide +kernel, rfl⟩
theorem dX6_runs_102 : zD cX6_runs 102 (.invokevirtual 160) 3 105 := ⟨by decide +kernel, rfl⟩
theorem dX6_runs_105 : zD cX6_runs 105 (.ireturn) 1 106 := ⟨by decide +kernel, rfl⟩
theorem dX6_ahead_0 : zD cX6_ahead 0 (.aload_n 0) 1 1 := ⟨by decide +kernel, rfl⟩
theorem dX6_ahead_1 : zD cX6_ahead 1 (.iload_n 1) 1 2 := ⟨by decide +kernel, rfl⟩
theorem dX6_ahead_2 : zD cX6_ahead 2 (.invokevirtual 113) 3 5 := ⟨by decide +kernel, rfl⟩
theorem dX6_ahead_5 : zJ cX6_ahead 5 (fun o => .ifCond .eq o) 27 8 := ⟨22, by decide +kernel, by decide, rfl⟩
theorem dX6_ahead_8 : zD cX6_ahead 8 (.iload_n 2) 1 9 := ⟨by decide +kernel, rfl⟩
theorem dX6_ahead_9 : zD cX6_ahead 9 (.iconst 0) 1 10 := ⟨by decide +kernel, rfl⟩
theorem dX6_ahead_10 : zD cX6_ahead 10 (.bipush 60) 2 12 := ⟨by decide +kernel, rfl⟩
theorem dX6_ahead_12 : zD cX6_ahead 12 (.invokestatic 66) 3 15 := ⟨by decide +kernel, rfl⟩
theorem dX6_ahead_15 : zJ cX6_ahead 15 (fun o => .ifCond .eq o) 27 18 := ⟨12, by decide +kernel, by decide, rfl⟩
theorem dX6_ahead_18 : zD cX6_ahead 18 (.iload_n 3) 1 19 := ⟨by decide +kernel, rfl⟩
theorem dX6_ahead_19 : zD cX6_ahead 19 (.iconst 0) 1 20 := ⟨by decide +kernel, rfl⟩
theorem dX6_ahead_20 : zD cX6_ahead 20 (.iconst 1) 1 21 := ⟨by decide +kernel, rfl⟩
theorem dX6_ahead_21 : zD cX6_ahead 21 (.invokestatic 66) 3 24 := ⟨by decide +kernel, rfl⟩
theorem dX6_ahead_24 : zJ cX6_ahead 24 (fun o => .ifCond .ne o) 29 27 := ⟨5, by decide +kernel, by decide, rfl⟩
theorem dX6_ahead_27 : zD cX6_ahead 27 (.iconst (-1)) 1 28 := ⟨by decide +kernel, rfl⟩
theorem dX6_ahead_28 : zD cX6_ahead 28 (.ireturn) 1 29 := ⟨by decide +kernel, rfl⟩
theorem dX6_ahead_29 : zD cX6_ahead 29 (.iload_n 3) 1 30 := ⟨by decide +kernel, rfl⟩
theorem dX6_ahead_30 : zJ cX6_ahead 30 (fun o => .ifCond .ne o) 51 33 := ⟨21, by decide +kernel, by decide, rfl⟩
theorem dX6_ahead_33 : zD cX6_ahead 33 (.aload_n 0) 1 34 := ⟨by decide +kernel, rfl⟩
theorem dX6_ahead_34 : zD cX6_ahead 34 (.getfield 10) 3 37 := ⟨by decide +kernel, rfl⟩
theorem dX6_ahead_37 : zD cX6_ahead 37 (.iload_n 1) 1 38 := ⟨by decide +kernel, rfl⟩
theorem dX6_ahead_38 : zD cX6_ahead 38 (.aload_n 0) 1 39 := ⟨by decide +kernel, rfl⟩
theorem dX6_ahead_39 : zD cX6_ahead 39 (.getfield 10) 3 42 := ⟨by decide +kernel, rfl⟩
theorem dX6_ahead_42 : zD cX6_ahead 42 (.iload_n 1) 1 43 := ⟨by decide +kernel, rfl⟩
theorem dX6_ahead_43 : zD cX6_ahead 43 (.invokevirtual 116) 3 46 := ⟨by decide +kernel, rfl⟩
theorem dX6_ahead_46 : zD cX6_ahead 46 (.iload_n 2) 1 47 := ⟨by decide +kernel, rfl⟩
theorem dX6_ahead_47 : zD cX6_ahead 47 (.invokevirtual 163) 3 50 := ⟨by decide +kernel, rfl⟩
theorem dX6_ahead_50 : zD cX6_ahead 50 (.ireturn) 1 51 := ⟨by decide +kernel, rfl⟩
theorem dX6_ahead_51 : zD cX6_ahead 51 (.aload_n 0) 1 52 := ⟨by decide +kernel, rfl⟩
theorem dX6_ahead_52 : zD cX6_ahead 52 (.getfield 10) 3 55 := ⟨by decide +kernel, rfl⟩
theorem dX6_ahead_55 : zD cX6_ahead 55 (.getfield 120) 3 58 := ⟨by decide +kernel, rfl⟩
theorem dX6_ahead_58 : zD cX6_ahead 58 (.iload_n 1) 1 59 := ⟨by decide +kernel, rfl⟩
theorem dX6_ahead_59 : zD cX6_ahead 59 (.iaload) 1 60 := ⟨by decide +kernel, rfl⟩
theorem dX6_ahead_60 : zD cX6_ahead 60 (.aload_n 0) 1 61 := ⟨by decide +kernel, rfl⟩
theorem dX6_ahead_61 : zD cX6_ahead 61 (.getfield 10) 3 64 := ⟨by decide +kernel, rfl⟩
theorem dX6_ahead_64 : zD cX6_ahead 64 (.getfield 127) 3 67 := ⟨by decide +kernel, rfl⟩
theorem dX6_ahead_67 : zD cX6_ahead 67 (.iload_n 1) 1 68 := ⟨by decide +kernel, rfl⟩
theorem dX6_ahead_68 : zD cX6_ahead 68 (.iaload) 1 69 := ⟨by decide +kernel, rfl⟩
theorem dX6_ahead_69 : zD cX6_ahead 69 (.aload_n 0) 1 70 := ⟨by decide +kernel, rfl⟩
theorem dX6_ahead_70 : zD cX6_ahead 70 (.getfield 10) 3 73 := ⟨by decide +kernel, rfl⟩
theorem dX6_ahead_73 : zD cX6_ahead 73 (.iload_n 1) 1 74 := ⟨by decide +kernel, rfl⟩
theorem dX6_ahead_74 : zD cX6_ahead 74 (.invokevirtual 116) 3 77 := ⟨by decide +kernel, rfl⟩
theorem dX6_ahead_77 : zD cX6_ahead 77 (.iload_n 2) 1 78 := ⟨by decide +kernel, rfl⟩
theorem dX6_ahead_78 : zD cX6_ahead 78 (.invokestatic 167) 3 81 := ⟨by decide +kernel, rfl⟩
theorem dX6_ahead_81 : zD cX6_ahead 81 (.ireturn) 1 82 := ⟨by decide +kernel, rfl⟩
theorem dX6_late_0 : zD cX6_late 0 (.aload_n 0) 1 1 := ⟨by decide +kernel, rfl⟩
theorem dX6_late_1 : zD cX6_late 1 (.iload_n 1) 1 2 := ⟨by decide +kernel, rfl⟩
theorem dX6_late_2 : zD cX6_late 2 (.invokevirtual 113) 3 5 := ⟨by decide +kernel, rfl⟩
theorem dX6_late_5 : zJ cX6_late 5 (fun o => .ifCond .eq o) 18 8 := ⟨13, by decide +kernel, by decide, rfl⟩
theorem dX6_late_8 : zD cX6_late 8 (.iload_n 2) 1 9 := ⟨by decide +kernel, rfl⟩
theorem dX6_late_9 : zD cX6_late 9 (.iconst 0) 1 10 := ⟨by decide +kernel, rfl⟩
theorem dX6_late_10 : zD cX6_late 10 (.bipush 99) 2 12 := ⟨by decide +kernel, rfl⟩
theorem dX6_late_12 : zD cX6_late 12 (.invokestatic 66) 3 15 := ⟨by decide +kernel, rfl⟩
theorem dX6_late_15 : zJ cX6_late 15 (fun o => .ifCond .ne o) 20 18 := ⟨5, by decide +kernel, by decide, rfl⟩
theorem dX6_late_18 : zD cX6_late 18 (.iconst (-1)) 1 19 := ⟨by decide +kernel, rfl⟩
theorem dX6_late_19 : zD cX6_late 19 (.ireturn) 1 20 := ⟨by decide +kernel, rfl⟩
theorem dX6_late_20 : zD cX6_late 20 (.aload_n 0) 1 21 := ⟨by decide +kernel, rfl⟩
theorem dX6_late_21 : zD cX6_late 21 (.getfield 10) 3 24 := ⟨by decide +kernel, rfl⟩
theorem dX6_late_24 : zD cX6_late 24 (.iload_n 1) 1 25 := ⟨by decide +kernel, rfl⟩
theorem dX6_late_25 : zD cX6_late 25 (.invokevirtual 116) 3 28 := ⟨by decide +kernel, rfl⟩
theorem dX6_late_28 : zD cX6_late 28 (.istore_n 3) 1 29 := ⟨by decide +kernel, rfl⟩
theorem dX6_late_29 : zD cX6_late 29 (.aload_n 0) 1 30 := ⟨by decide +kernel, rfl⟩
theorem dX6_late_30 : zD cX6_late 30 (.getfield 10) 3 33 := ⟨by decide +kernel, rfl⟩
theorem dX6_late_33 : zD cX6_late 33 (.getfield 120) 3 36 := ⟨by decide +kernel, rfl⟩
theorem dX6_late_36 : zD cX6_late 36 (.iload_n 1) 1 37 := ⟨by decide +kernel, rfl⟩
theorem dX6_late_37 : zD cX6_late 37 (.iaload) 1 38 := ⟨by decide +kernel, rfl⟩
theorem dX6_late_38 : zD cX6_late 38 (.istore 4) 2 40 := ⟨by decide +kernel, rfl⟩
theorem dX6_late_40 : zD cX6_late 40 (.aload_n 0) 1 41 := ⟨by decide +kernel, rfl⟩
theorem dX6_late_41 : zD cX6_late 41 (.getfield 10) 3 44 := ⟨by decide +kernel, rfl⟩
theorem dX6_late_44 : zD cX6_late 44 (.getfield 124) 3 47 := ⟨by decide +kernel, rfl⟩
theorem dX6_late_47 : zD cX6_late 47 (.iload_n 1) 1 48 := ⟨by decide +kernel, rfl⟩
theorem dX6_late_48 : zD cX6_late 48 (.iaload) 1 49 := ⟨by decide +kernel, rfl⟩
theorem dX6_late_49 : zD cX6_late 49 (.istore 5) 2 51 := ⟨by decide +kernel, rfl⟩
theorem dX6_late_51 : zD cX6_late 51 (.aload_n 0) 1 52 := ⟨by decide +kernel, rfl⟩
theorem dX6_late_52 : zD cX6_late 52 (.getfield 10) 3 55 := ⟨by decide +kernel, rfl⟩
theorem dX6_late_55 : zD cX6_late 55 (.getfield 127) 3 58 := ⟨by decide +kernel, rfl⟩
theorem dX6_late_58 : zD cX6_late 58 (.iload_n 1) 1 59 := ⟨by decide +kernel, rfl⟩
theorem dX6_late_59 : zD cX6_late 59 (.iaload) 1 60 := ⟨by decide +kernel, rfl⟩
theorem dX6_late_60 : zD cX6_late 60 (.istore 6) 2 62 := ⟨by decide +kernel, rfl⟩
theorem dX6_late_62 : zD cX6_late 62 (.iconst 0) 1 63 := ⟨by decide +kernel, rfl⟩
theorem dX6_late_63 : zD cX6_late 63 (.istore 7) 2 65 := ⟨by decide +kernel, rfl⟩
theorem dX6_late_65 : zD cX6_late 65 (.iload 7) 2 67 := ⟨by decide +kernel, rfl⟩
theorem dX6_late_67 : zD cX6_late 67 (.bipush 60) 2 69 := ⟨by decide +kernel, rfl⟩
theorem dX6_late_69 : zJ cX6_late 69 (fun o => .if_icmp .gt o) 109 72 := ⟨40, by decide +kernel, by decide, rfl⟩
theorem dX6_late_72 : zD cX6_late 72 (.iload 5) 2 74 := ⟨by decide +kernel, rfl⟩
theorem dX6_late_74 : zD cX6_late 74 (.iload_n 2) 1 75 := ⟨by decide +kernel, rfl⟩
theorem dX6_late_75 : zJ cX6_late 75 (fun o => .if_icmp .lt o) 81 78 := ⟨6, by decide +kernel, by decide, rfl⟩
theorem dX6_late_78 : zD cX6_late 78 (.iload 7) 2 80 := ⟨by decide +kernel, rfl⟩
theorem dX6_late_80 : zD cX6_late 80 (.ireturn) 1 81 := ⟨by decide +kernel, rfl⟩
theorem dX6_late_81 : zD cX6_late 81 (.iload 4) 2 83 := ⟨by decide +kernel, rfl⟩
theorem dX6_late_83 : zD cX6_late 83 (.iload 5) 2 85 := ⟨by decide +kernel, rfl⟩
theorem dX6_late_85 : zD cX6_late 85 (.iload 6) 2 87 := ⟨by decide +kernel, rfl⟩
theorem dX6_late_87 : zD cX6_late 87 (.iload_n 3) 1 88 := ⟨by decide +kernel, rfl⟩
theorem dX6_late_88 : zD cX6_late 88 (.invokestatic 171) 3 91 := ⟨by decide +kernel, rfl⟩
theorem dX6_late_91 : zD cX6_late 91 (.istore 5) 2 93 := ⟨by decide +kernel, rfl⟩
theorem dX6_late_93 : zD cX6_late 93 (.iload 4) 2 95 := ⟨by decide +kernel, rfl⟩
theorem dX6_late_95 : zD cX6_late 95 (.iload 6) 2 97 := ⟨by decide +kernel, rfl⟩
theorem dX6_late_97 : zD cX6_late 97 (.iload_n 3) 1 98 := ⟨by decide +kernel, rfl⟩
theorem dX6_late_98 : zD cX6_late 98 (.invokestatic 174) 3 101 := ⟨by decide +kernel, rfl⟩
theorem dX6_late_101 : zD cX6_late 101 (.istore 6) 2 103 := ⟨by decide +kernel, rfl⟩
theorem dX6_late_103 : zD cX6_late 103 (.iinc 7 1) 3 106 := ⟨by decide +kernel, rfl⟩
theorem dX6_late_106 : zG cX6_late 106 65 := ⟨(-41), by decide +kernel, by decide⟩
theorem dX6_late_109 : zD cX6_late 109 (.bipush (-4)) 2 111 := ⟨by decide +kernel, rfl⟩
theorem dX6_late_111 : zD cX6_late 111 (.ireturn) 1 112 := ⟨by decide +kernel, rfl⟩
theorem dX6_order_0 : zD cX6_order 0 (.iload_n 1) 1 1 := ⟨by decide +kernel, rfl⟩
theorem dX6_order_1 : zD cX6_order 1 (.bipush 10) 2 3 := ⟨by decide +kernel, rfl⟩
theorem dX6_order_3 : zD cX6_order 3 (.isub) 1 4 := ⟨by decide +kernel, rfl⟩
theorem dX6_order_4 : zD cX6_order 4 (.istore_n 2) 1 5 := ⟨by decide +kernel, rfl⟩
theorem dX6_order_5 : zD cX6_order 5 (.iload_n 1) 1 6 := ⟨by decide +kernel, rfl⟩
theorem dX6_order_6 : zJ cX6_order 6 (fun o => .ifCond .eq o) 22 9 := ⟨16, by decide +kernel, by decide, rfl⟩
theorem dX6_order_9 : zD cX6_order 9 (.iload_n 1) 1 10 := ⟨by decide +kernel, rfl⟩
theorem dX6_order_10 : zD cX6_order 10 (.bipush 10) 2 12 := ⟨by decide +kernel, rfl⟩
theorem dX6_order_12 : zD cX6_order 12 (.bipush 13) 2 14 := ⟨by decide +kernel, rfl⟩
theorem dX6_order_14 : zD cX6_order 14 (.invokestatic 66) 3 17 := ⟨by decide +kernel, rfl⟩
theorem dX6_order_17 : zJ cX6_order 17 (fun o => .ifCond .ne o) 22 20 := ⟨5, by decide +kernel, by decide, rfl⟩
theorem dX6_order_20 : zD cX6_order 20 (.iconst (-1)) 1 21 := ⟨by decide +kernel, rfl⟩
theorem dX6_order_21 : zD cX6_order 21 (.ireturn) 1 22 := ⟨by decide +kernel, rfl⟩
theorem dX6_order_22 : zD cX6_order 22 (.aload_n 0) 1 23 := ⟨by decide +kernel, rfl⟩
theorem dX6_order_23 : zD cX6_order 23 (.getfield 10) 3 26 := ⟨by decide +kernel, rfl⟩
theorem dX6_order_26 : zD cX6_order 26 (.getfield 91) 3 29 := ⟨by decide +kernel, rfl⟩
theorem dX6_order_29 : zJ cX6_order 29 (fun o => .ifCond .ne o) 35 32 := ⟨6, by decide +kernel, by decide, rfl⟩
theorem dX6_order_32 : zD cX6_order 32 (.bipush (-2)) 2 34 := ⟨by decide +kernel, rfl⟩
theorem dX6_order_34 : zD cX6_order 34 (.ireturn) 1 35 := ⟨by decide +kernel, rfl⟩
theorem dX6_order_35 : zD cX6_order 35 (.iload_n 1) 1 36 := ⟨by decide +kernel, rfl⟩
theorem dX6_order_36 : zJ cX6_order 36 (fun o => .ifCond .eq o) 50 39 := ⟨14, by decide +kernel, by decide, rfl⟩
theorem dX6_order_39 : zD cX6_order 39 (.aload_n 0) 1 40 := ⟨by decide +kernel, rfl⟩
theorem dX6_order_40 : zD cX6_order 40 (.iload_n 2) 1 41 := ⟨by decide +kernel, rfl⟩
theorem dX6_order_41 : zD cX6_order 41 (.invokevirtual 137) 3 44 := ⟨by decide +kernel, rfl⟩
theorem dX6_order_44 : zJ cX6_order 44 (fun o => .ifCond .ne o) 50 47 := ⟨6, by decide +kernel, by decide, rfl⟩
theorem dX6_order_47 : zD cX6_order 47 (.bipush (-4)) 2 49 := ⟨by decide +kernel, rfl⟩
theorem dX6_order_49 : zD cX6_order 49 (.ireturn) 1 50 := ⟨by decide +kernel, rfl⟩
theorem dX6_order_50 : zD cX6_order 50 (.aload_n 0) 1 51 := ⟨by decide +kernel, rfl⟩
theorem dX6_order_51 : zD cX6_order 51 (.getfield 37) 3 54 := ⟨by decide +kernel, rfl⟩
theorem dX6_order_54 : zD cX6_order 54 (.aload_n 0) 1 55 := ⟨by decide +kernel, rfl⟩
theorem dX6_order_55 : zD cX6_order 55 (.getfield 10) 3 58 := ⟨by decide +kernel, rfl⟩
theorem dX6_order_58 : zD cX6_order 58 (.invokevirtual 177) 3 61 := ⟨by decide +kernel, rfl⟩
theorem dX6_order_61 : zD cX6_order 61 (.iload_n 1) 1 62 := ⟨by decide +kernel, rfl⟩
theorem dX6_order_62 : zJ cX6_order 62 (fun o => .ifCond .ne o) 75 65 := ⟨13, by decide +kernel, by decide, rfl⟩
theorem dX6_order_65 : zD cX6_order 65 (.aload_n 0) 1 66 := ⟨by decide +kernel, rfl⟩
theorem dX6_order_66 : zD cX6_order 66 (.getfield 37) 3 69 := ⟨by decide +kernel, rfl⟩
theorem dX6_order_69 : zD cX6_order 69 (.getfield 180) 3 72 := ⟨by decide +kernel, rfl⟩
theorem dX6_order_72 : zG cX6_order 72 84 := ⟨12, by decide +kernel, by decide⟩
theorem dX6_order_75 : zD cX6_order 75 (.aload_n 0) 1 76 := ⟨by decide +kernel, rfl⟩
theorem dX6_order_76 : zD cX6_order 76 (.getfield 37) 3 79 := ⟨by decide +kernel, rfl⟩
theorem dX6_order_79 : zD cX6_order 79 (.getfield 183) 3 82 := ⟨by decide +kernel, rfl⟩
theorem dX6_order_82 : zD cX6_order 82 (.iload_n 2) 1 83 := ⟨by decide +kernel, rfl⟩
theorem dX6_order_83 : zD cX6_order 83 (.iaload) 1 84 := ⟨by decide +kernel, rfl⟩
theorem dX6_order_84 : zD cX6_order 84 (.ireturn) 1 85 := ⟨by decide +kernel, rfl⟩
theorem dX6_move_0 : zD cX6_move 0 (.iload_n 1) 1 1 := ⟨by decide +kernel, rfl⟩
theorem dX6_move_1 : zD cX6_move 1 (.iconst 0) 1 2 := ⟨by decide +kernel, rfl⟩
theorem dX6_move_2 : zD cX6_move 2 (.bipush 60) 2 4 := ⟨by decide +kernel, rfl⟩
theorem dX6_move_4 : zD cX6_move 4 (.invokestatic 66) 3 7 := ⟨by decide +kernel, rfl⟩
theorem dX6_move_7 : zJ cX6_move 7 (fun o => .ifCond .eq o) 19 10 := ⟨12, by decide +kernel, by decide, rfl⟩
theorem dX6_move_10 : zD cX6_move 10 (.iload_n 2) 1 11 := ⟨by decide +kernel, rfl⟩
theorem dX6_move_11 : zD cX6_move 11 (.iconst 0) 1 12 := ⟨by decide +kernel, rfl⟩
theorem dX6_move_12 : zD cX6_move 12 (.iconst 1) 1 13 := ⟨by decide +kernel, rfl⟩
theorem dX6_move_13 : zD cX6_move 13 (.invokestatic 66) 3 16 := ⟨by decide +kernel, rfl⟩
theorem dX6_move_16 : zJ cX6_move 16 (fun o => .ifCond .ne o) 21 19 := ⟨5, by decide +kernel, by decide, rfl⟩
theorem dX6_move_19 : zD cX6_move 19 (.iconst (-1)) 1 20 := ⟨by decide +kernel, rfl⟩
theorem dX6_move_20 : zD cX6_move 20 (.ireturn) 1 21 := ⟨by decide +kernel, rfl⟩
theorem dX6_move_21 : zD cX6_move 21 (.iconst 0) 1 22 := ⟨by decide +kernel, rfl⟩
theorem dX6_move_22 : zD cX6_move 22 (.istore_n 3) 1 23 := ⟨by decide +kernel, rfl⟩
theorem dX6_move_23 : zD cX6_move 23 (.bipush (-4)) 2 25 := ⟨by decide +kernel, rfl⟩
theorem dX6_move_25 : zD cX6_move 25 (.istore 4) 2 27 := ⟨by decide +kernel, rfl⟩
theorem dX6_move_27 : zD cX6_move 27 (.iconst 0) 1 28 := ⟨by decide +kernel, rfl⟩
theorem dX6_move_28 : zD cX6_move 28 (.istore 5) 2 30 := ⟨by decide +kernel, rfl⟩
theorem dX6_move_30 : zD cX6_move 30 (.iload 5) 2 32 := ⟨by decide +kernel, rfl⟩
theorem dX6_move_32 : zD cX6_move 32 (.aload_n 0) 1 33 := ⟨by decide +kernel, rfl⟩
theorem dX6_move_33 : zD cX6_move 33 (.getfield 10) 3 36 := ⟨by decide +kernel, rfl⟩
theorem dX6_move_36 : zD cX6_move 36 (.getfield 94) 3 39 := ⟨by decide +kernel, rfl⟩
theorem dX6_move_39 : zJ cX6_move 39 (fun o => .if_icmp .ge o) 159 42 := ⟨120, by decide +kernel, by decide, rfl⟩
theorem dX6_move_42 : zD cX6_move 42 (.aload_n 0) 1 43 := ⟨by decide +kernel, rfl⟩
theorem dX6_move_43 : zD cX6_move 43 (.getfield 10) 3 46 := ⟨by decide +kernel, rfl⟩
theorem dX6_move_46 : zD cX6_move 46 (.getfield 140) 3 49 := ⟨by decide +kernel, rfl⟩
theorem dX6_move_49 : zD cX6_move 49 (.iload 5) 2 51 := ⟨by decide +kernel, rfl⟩
theorem dX6_move_51 : zD cX6_move 51 (.iaload) 1 52 := ⟨by decide +kernel, rfl⟩
theorem dX6_move_52 : zD cX6_move 52 (.istore 6) 2 54 := ⟨by decide +kernel, rfl⟩
theorem dX6_move_54 : zD cX6_move 54 (.aload_n 0) 1 55 := ⟨by decide +kernel, rfl⟩
theorem dX6_move_55 : zD cX6_move 55 (.getfield 10) 3 58 := ⟨by decide +kernel, rfl⟩
theorem dX6_move_58 : zD cX6_move 58 (.iload 6) 2 60 := ⟨by decide +kernel, rfl⟩
theorem dX6_move_60 : zD cX6_move 60 (.aload_n 0) 1 61 := ⟨by decide +kernel, rfl⟩
theorem dX6_move_61 : zD cX6_move 61 (.getfield 10) 3 64 := ⟨by decide +kernel, rfl⟩
theorem dX6_move_64 : zD cX6_move 64 (.getfield 143) 3 67 := ⟨by decide +kernel, rfl⟩
theorem dX6_move_67 : zD cX6_move 67 (.iload 5) 2 69 := ⟨by decide +kernel, rfl⟩
theorem dX6_move_69 : zD cX6_move 69 (.iaload) 1 70 := ⟨by decide +kernel, rfl⟩
theorem dX6_move_70 : zD cX6_move 70 (.ineg) 1 71 := ⟨by decide +kernel, rfl⟩
theorem dX6_move_71 : zD cX6_move 71 (.iload_n 1) 1 72 := ⟨by decide +kernel, rfl⟩
theorem dX6_move_72 : zD cX6_move 72 (.invokevirtual 186) 3 75 := ⟨by decide +kernel, rfl⟩
theorem dX6_move_75 : zD cX6_move 75 (.istore 7) 2 77 := ⟨by decide +kernel, rfl⟩
theorem dX6_move_77 : zD cX6_move 77 (.iconst 0) 1 78 := ⟨by decide +kernel, rfl⟩
theorem dX6_move_78 : zD cX6_move 78 (.istore 8) 2 80 := ⟨by decide +kernel, rfl⟩
theorem dX6_move_80 : zD cX6_move 80 (.iload 8) 2 82 := ⟨by decide +kernel, rfl⟩
theorem dX6_move_82 : zD cX6_move 82 (.aload_n 0) 1 83 := ⟨by decide +kernel, rfl⟩
theorem dX6_move_83 : zD cX6_move 83 (.getfield 10) 3 86 := ⟨by decide +kernel, rfl⟩
theorem dX6_move_86 : zD cX6_move 86 (.getfield 91) 3 89 := ⟨by decide +kernel, rfl⟩
theorem dX6_move_89 : zJ cX6_move 89 (fun o => .if_icmp .ge o) 153 92 := ⟨64, by decide +kernel, by decide, rfl⟩
theorem dX6_move_92 : zD cX6_move 92 (.iload 8) 2 94 := ⟨by decide +kernel, rfl⟩
theorem dX6_move_94 : zD cX6_move 94 (.iload 6) 2 96 := ⟨by decide +kernel, rfl⟩
theorem dX6_move_96 : zJ cX6_move 96 (fun o => .if_icmp .ne o) 103 99 := ⟨7, by decide +kernel, by decide, rfl⟩
theorem dX6_move_99 : zD cX6_move 99 (.iconst 0) 1 100 := ⟨by decide +kernel, rfl⟩
theorem dX6_move_100 : zG cX6_move 100 126 := ⟨26, by decide +kernel, by decide⟩
theorem dX6_move_103 : zD cX6_move 103 (.iload 7) 2 105 := ⟨by decide +kernel, rfl⟩
theorem dX6_move_105 : zD cX6_move 105 (.aload_n 0) 1 106 := ⟨by decide +kernel, rfl⟩
theorem dX6_move_106 : zD cX6_move 106 (.getfield 10) 3 109 := ⟨by decide +kernel, rfl⟩
theorem dX6_move_109 : zD cX6_move 109 (.iload 8) 2 111 := ⟨by decide +kernel, rfl⟩
theorem dX6_move_111 : zD cX6_move 111 (.aload_n 0) 1 112 := ⟨by decide +kernel, rfl⟩
theorem dX6_move_112 : zD cX6_move 112 (.getfield 10) 3 115 := ⟨by decide +kernel, rfl⟩
theorem dX6_move_115 : zD cX6_move 115 (.getfield 143) 3 118 := ⟨by decide +kernel, rfl⟩
theorem dX6_move_118 : zD cX6_move 118 (.iload 5) 2 120 := ⟨by decide +kernel, rfl⟩
theorem dX6_move_120 : zD cX6_move 120 (.iaload) 1 121 := ⟨by decide +kernel, rfl⟩
theorem dX6_move_121 : zD cX6_move 121 (.iload_n 1) 1 122 := ⟨by decide +kernel, rfl⟩
theorem dX6_move_122 : zD cX6_move 122 (.invokevirtual 186) 3 125 := ⟨by decide +kernel, rfl⟩
theorem dX6_move_125 : zD cX6_move 125 (.iadd) 1 126 := ⟨by decide +kernel, rfl⟩
theorem dX6_move_126 : zD cX6_move 126 (.istore 9) 2 128 := ⟨by decide +kernel, rfl⟩
theorem dX6_move_128 : zD cX6_move 128 (.iload 9) 2 130 := ⟨by decide +kernel, rfl⟩
theorem dX6_move_130 : zD cX6_move 130 (.iload_n 3) 1 131 := ⟨by decide +kernel, rfl⟩
theorem dX6_move_131 : zJ cX6_move 131 (fun o => .if_icmp .le o) 147 134 := ⟨16, by decide +kernel, by decide, rfl⟩
theorem dX6_move_134 : zD cX6_move 134 (.iload 9) 2 136 := ⟨by decide +kernel, rfl⟩
theorem dX6_move_136 : zD cX6_move 136 (.istore_n 3) 1 137 := ⟨by decide +kernel, rfl⟩
theorem dX6_move_137 : zD cX6_move 137 (.bipush 10) 2 139 := ⟨by decide +kernel, rfl⟩
theorem dX6_move_139 : zD cX6_move 139 (.iload 5) 2 141 := ⟨by decide +kernel, rfl⟩
theorem dX6_move_141 : zD cX6_move 141 (.imul) 1 142 := ⟨by decide +kernel, rfl⟩
theorem dX6_move_142 : zD cX6_move 142 (.iload 8) 2 144 := ⟨by decide +kernel, rfl⟩
theorem dX6_move_144 : zD cX6_move 144 (.iadd) 1 145 := ⟨by decide +kernel, rfl⟩
theorem dX6_move_145 : zD cX6_move 145 (.istore 4) 2 147 := ⟨by decide +kernel, rfl⟩
theorem dX6_move_147 : zD cX6_move 147 (.iinc 8 1) 3 150 := ⟨by decide +kernel, rfl⟩
theorem dX6_move_150 : zG cX6_move 150 80 := ⟨(-70), by decide +kernel, by decide⟩
theorem dX6_move_153 : zD cX6_move 153 (.iinc 5 1) 3 156 := ⟨by decide +kernel, rfl⟩
theorem dX6_move_156 : zG cX6_move 156 30 := ⟨(-126), by decide +kernel, by decide⟩
theorem dX6_move_159 : zD cX6_move 159 (.iload 4) 2 161 := ⟨by decide +kernel, rfl⟩
theorem dX6_move_161 : zD cX6_move 161 (.bipush (-4)) 2 163 := ⟨by decide +kernel, rfl⟩
theorem dX6_move_163 : zJ cX6_move 163 (fun o => .if_icmp .eq o) 170 166 := ⟨7, by decide +kernel, by decide, rfl⟩
theorem dX6_move_166 : zD cX6_move 166 (.iload_n 2) 1 167 := ⟨by decide +kernel, rfl⟩
theorem dX6_move_167 : zJ cX6_move 167 (fun o => .ifCond .ne o) 175 170 := ⟨8, by decide +kernel, by decide, rfl⟩
theorem dX6_move_170 : zD cX6_move 170 (.iload 4) 2 172 := ⟨by decide +kernel, rfl⟩
theorem dX6_move_172 : zG cX6_move 172 185 := ⟨13, by decide +kernel, by decide⟩
theorem dX6_move_175 : zD cX6_move 175 (.aload_n 0) 1 176 := ⟨by decide +kernel, rfl⟩
theorem dX6_move_176 : zD cX6_move 176 (.getfield 10) 3 179 := ⟨by decide +kernel, rfl⟩
theorem dX6_move_179 : zD cX6_move 179 (.iload_n 1) 1 180 := ⟨by decide +kernel, rfl⟩
theorem dX6_move_180 : zD cX6_move 180 (.invokevirtual 189) 3 183 := ⟨by decide +kernel, rfl⟩
theorem dX6_move_183 : zD cX6_move 183 (.iload_n 3) 1 184 := ⟨by decide +kernel, rfl⟩
theorem dX6_move_184 : zD cX6_move 184 (.iadd) 1 185 := ⟨by decide +kernel, rfl⟩
theorem dX6_move_185 : zD cX6_move 185 (.ireturn) 1 186 := ⟨by decide +kernel, rfl⟩
theorem dX6_still_0 : zD cX6_still 0 (.iload_n 1) 1 1 := ⟨by decide +kernel, rfl⟩
theorem dX6_still_1 : zD cX6_still 1 (.iconst 0) 1 2 := ⟨by decide +kernel, rfl⟩
theorem dX6_still_2 : zD cX6_still 2 (.bipush 60) 2 4 := ⟨by decide +kernel, rfl⟩
theorem dX6_still_4 : zD cX6_still 4 (.invokestatic 66) 3 7 := ⟨by decide +kernel, rfl⟩
theorem dX6_still_7 : zJ cX6_still 7 (fun o => .ifCond .eq o) 19 10 := ⟨12, by decide +kernel, by decide, rfl⟩
theorem dX6_still_10 : zD cX6_still 10 (.iload_n 2) 1 11 := ⟨by decide +kernel, rfl⟩
theorem dX6_still_11 : zD cX6_still 11 (.iconst 0) 1 12 := ⟨by decide +kernel, rfl⟩
theorem dX6_still_12 : zD cX6_still 12 (.iconst 1) 1 13 := ⟨by decide +kernel, rfl⟩
theorem dX6_still_13 : zD cX6_still 13 (.invokestatic 66) 3 16 := ⟨by decide +kernel, rfl⟩
theorem dX6_still_16 : zJ cX6_still 16 (fun o => .ifCond .ne o) 21 19 := ⟨5, by decide +kernel, by decide, rfl⟩
theorem dX6_still_19 : zD cX6_still 19 (.iconst (-1)) 1 20 := ⟨by decide +kernel, rfl⟩
theorem dX6_still_20 : zD cX6_still 20 (.ireturn) 1 21 := ⟨by decide +kernel, rfl⟩
theorem dX6_still_21 : zD cX6_still 21 (.aload_n 0) 1 22 := ⟨by decide +kernel, rfl⟩
theorem dX6_still_22 : zD cX6_still 22 (.bipush (-4)) 2 24 := ⟨by decide +kernel, rfl⟩
theorem dX6_still_24 : zD cX6_still 24 (.iload_n 1) 1 25 := ⟨by decide +kernel, rfl⟩
theorem dX6_still_25 : zD cX6_still 25 (.invokevirtual 192) 3 28 := ⟨by decide +kernel, rfl⟩
theorem dX6_still_28 : zD cX6_still 28 (.istore_n 3) 1 29 := ⟨by decide +kernel, rfl⟩
theorem dX6_still_29 : zD cX6_still 29 (.bipush (-4)) 2 31 := ⟨by decide +kernel, rfl⟩
theorem dX6_still_31 : zD cX6_still 31 (.istore 4) 2 33 := ⟨by decide +kernel, rfl⟩
theorem dX6_still_33 : zD cX6_still 33 (.iconst 0) 1 34 := ⟨by decide +kernel, rfl⟩
theorem dX6_still_34 : zD cX6_still 34 (.istore 5) 2 36 := ⟨by decide +kernel, rfl⟩
theorem dX6_still_36 : zD cX6_still 36 (.iload 5) 2 38 := ⟨by decide +kernel, rfl⟩
theorem dX6_still_38 : zD cX6_still 38 (.aload_n 0) 1 39 := ⟨by decide +kernel, rfl⟩
theorem dX6_still_39 : zD cX6_still 39 (.getfield 10) 3 42 := ⟨by decide +kernel, rfl⟩
theorem dX6_still_42 : zD cX6_still 42 (.getfield 94) 3 45 := ⟨by decide +kernel, rfl⟩
theorem dX6_still_45 : zJ cX6_still 45 (fun o => .if_icmp .ge o) 76 48 := ⟨31, by decide +kernel, by decide, rfl⟩
theorem dX6_still_48 : zD cX6_still 48 (.aload_n 0) 1 49 := ⟨by decide +kernel, rfl⟩
theorem dX6_still_49 : zD cX6_still 49 (.iload 5) 2 51 := ⟨by decide +kernel, rfl⟩
theorem dX6_still_51 : zD cX6_still 51 (.iload_n 1) 1 52 := ⟨by decide +kernel, rfl⟩
theorem dX6_still_52 : zD cX6_still 52 (.invokevirtual 192) 3 55 := ⟨by decide +kernel, rfl⟩
theorem dX6_still_55 : zD cX6_still 55 (.istore 6) 2 57 := ⟨by decide +kernel, rfl⟩
theorem dX6_still_57 : zD cX6_still 57 (.iload 6) 2 59 := ⟨by decide +kernel, rfl⟩
theorem dX6_still_59 : zD cX6_still 59 (.iload_n 3) 1 60 := ⟨by decide +kernel, rfl⟩
theorem dX6_still_60 : zJ cX6_still 60 (fun o => .if_icmp .le o) 70 63 := ⟨10, by decide +kernel, by decide, rfl⟩
theorem dX6_still_63 : zD cX6_still 63 (.iload 6) 2 65 := ⟨by decide +kernel, rfl⟩
theorem dX6_still_65 : zD cX6_still 65 (.istore_n 3) 1 66 := ⟨by decide +kernel, rfl⟩
theorem dX6_still_66 : zD cX6_still 66 (.iload 5) 2 68 := ⟨by decide +kernel, rfl⟩
theorem dX6_still_68 : zD cX6_still 68 (.istore 4) 2 70 := ⟨by decide +kernel, rfl⟩
theorem dX6_still_70 : zD cX6_still 70 (.iinc 5 1) 3 73 := ⟨by decide +kernel, rfl⟩
theorem dX6_still_73 : zG cX6_still 73 36 := ⟨(-37), by decide +kernel, by decide⟩
theorem dX6_still_76 : zD cX6_still 76 (.iload 4) 2 78 := ⟨by decide +kernel, rfl⟩
theorem dX6_still_78 : zD cX6_still 78 (.bipush (-4)) 2 80 := ⟨by decide +kernel, rfl⟩
theorem dX6_still_80 : zJ cX6_still 80 (fun o => .if_icmp .eq o) 87 83 := ⟨7, by decide +kernel, by decide, rfl⟩
theorem dX6_still_83 : zD cX6_still 83 (.iload_n 2) 1 84 := ⟨by decide +kernel, rfl⟩
theorem dX6_still_84 : zJ cX6_still 84 (fun o => .ifCond .ne o) 92 87 := ⟨8, by decide +kernel, by decide, rfl⟩
theorem dX6_still_87 : zD cX6_still 87 (.iload 4) 2 89 := ⟨by decide +kernel, rfl⟩
theorem dX6_still_89 : zG cX6_still 89 93 := ⟨4, by decide +kernel, by decide⟩
theorem dX6_still_92 : zD cX6_still 92 (.iload_n 3) 1 93 := ⟨by decide +kernel, rfl⟩
theorem dX6_still_93 : zD cX6_still 93 (.ireturn) 1 94 := ⟨by decide +kernel, rfl⟩
theorem dX6_sheavesWithout_0 : zD cX6_sheavesWithout 0 (.aload_n 0) 1 1 := ⟨by decide +kernel, rfl⟩
theorem dX6_sheavesWithout_1 : zD cX6_sheavesWithout 1 (.getfield 16) 3 4 := ⟨by decide +kernel, rfl⟩
theorem dX6_sheavesWithout_4 : zD cX6_sheavesWithout 4 (.aload_n 0) 1 5 := ⟨by decide +kernel, rfl⟩
theorem dX6_sheavesWithout_5 : zD cX6_sheavesWithout 5 (.getfield 10) 3 8 := ⟨by decide +kernel, rfl⟩
theorem dX6_sheavesWithout_8 : zD cX6_sheavesWithout 8 (.invokevirtual 84) 3 11 := ⟨by decide +kernel, rfl⟩
theorem dX6_sheavesWithout_11 : zD cX6_sheavesWithout 11 (.aload_n 0) 1 12 := ⟨by decide +kernel, rfl⟩
theorem dX6_sheavesWithout_12 : zD cX6_sheavesWithout 12 (.iload_n 1) 1 13 := ⟨by decide +kernel, rfl⟩
theorem dX6_sheavesWithout_13 : zD cX6_sheavesWithout 13 (.invokevirtual 137) 3 16 := ⟨by decide +kernel, rfl⟩
theorem dX6_sheavesWithout_16 : zJ cX6_sheavesWithout 16 (fun o => .ifCond .eq o) 29 19 := ⟨13, by decide +kernel, by decide, rfl⟩
theorem dX6_sheavesWithout_19 : zD cX6_sheavesWithout 19 (.aload_n 0) 1 20 := ⟨by decide +kernel, rfl⟩
theorem dX6_sheavesWithout_20 : zD cX6_sheavesWithout 20 (.getfield 16) 3 23 := ⟨by decide +kernel, rfl⟩
theorem dX6_sheavesWithout_23 : zD cX6_sheavesWithout 23 (.getfield 143) 3 26 := ⟨by decide +kernel, rfl⟩
theorem dX6_sheavesWithout_26 : zD cX6_sheavesWithout 26 (.iload_n 1) 1 27 := ⟨by decide +kernel, rfl⟩
theorem dX6_sheavesWithout_27 : zD cX6_sheavesWithout 27 (.iconst 0) 1 28 := ⟨by decide +kernel, rfl⟩
theorem dX6_sheavesWithout_28 : zD cX6_sheavesWithout 28 (.iastore) 1 29 := ⟨by decide +kernel, rfl⟩
theorem dX6_sheavesWithout_29 : zD cX6_sheavesWithout 29 (.aload_n 0) 1 30 := ⟨by decide +kernel, rfl⟩
theorem dX6_sheavesWithout_30 : zD cX6_sheavesWithout 30 (.getfield 16) 3 33 := ⟨by decide +kernel, rfl⟩
theorem dX6_sheavesWithout_33 : zD cX6_sheavesWithout 33 (.iload_n 2) 1 34 := ⟨by decide +kernel, rfl⟩
theorem dX6_sheavesWithout_34 : zD cX6_sheavesWithout 34 (.invokevirtual 154) 3 37 := ⟨by decide +kernel, rfl⟩
theorem dX6_sheavesWithout_37 : zD cX6_sheavesWithout 37 (.pop) 1 38 := ⟨by decide +kernel, rfl⟩
theorem dX6_sheavesWithout_38 : zD cX6_sheavesWithout 38 (.aload_n 0) 1 39 := ⟨by decide +kernel, rfl⟩
theorem dX6_sheavesWithout_39 : zD cX6_sheavesWithout 39 (.getfield 16) 3 42 := ⟨by decide +kernel, rfl⟩
theorem dX6_sheavesWithout_42 : zD cX6_sheavesWithout 42 (.getfield 100) 3 45 := ⟨by decide +kernel, rfl⟩
theorem dX6_sheavesWithout_45 : zD cX6_sheavesWithout 45 (.ireturn) 1 46 := ⟨by decide +kernel, rfl⟩
theorem dX6_need_0 : zD cX6_need 0 (.aload_n 0) 1 1 := ⟨by decide +kernel, rfl⟩
theorem dX6_need_1 : zD cX6_need 1 (.iload_n 1) 1 2 := ⟨by decide +kernel, rfl⟩
theorem dX6_need_2 : zD cX6_need 2 (.invokevirtual 137) 3 5 := ⟨by decide +kernel, rfl⟩
theorem dX6_need_5 : zJ cX6_need 5 (fun o => .ifCond .eq o) 28 8 := ⟨23, by decide +kernel, by decide, rfl⟩
theorem dX6_need_8 : zD cX6_need 8 (.iload_n 2) 1 9 := ⟨by decide +kernel, rfl⟩
theorem dX6_need_9 : zD cX6_need 9 (.iconst 0) 1 10 := ⟨by decide +kernel, rfl⟩
theorem dX6_need_10 : zD cX6_need 10 (.bipush 60) 2 12 := ⟨by decide +kernel, rfl⟩
theorem dX6_need_12 : zD cX6_need 12 (.invokestatic 66) 3 15 := ⟨by decide +kernel, rfl⟩
theorem dX6_need_15 : zJ cX6_need 15 (fun o => .ifCond .eq o) 28 18 := ⟨13, by decide +kernel, by decide, rfl⟩
theorem dX6_need_18 : zD cX6_need 18 (.iload_n 3) 1 19 := ⟨by decide +kernel, rfl⟩
theorem dX6_need_19 : zD cX6_need 19 (.iconst 0) 1 20 := ⟨by decide +kernel, rfl⟩
theorem dX6_need_20 : zD cX6_need 20 (.bipush 99) 2 22 := ⟨by decide +kernel, rfl⟩
theorem dX6_need_22 : zD cX6_need 22 (.invokestatic 66) 3 25 := ⟨by decide +kernel, rfl⟩
theorem dX6_need_25 : zJ cX6_need 25 (fun o => .ifCond .ne o) 30 28 := ⟨5, by decide +kernel, by decide, rfl⟩
theorem dX6_need_28 : zD cX6_need 28 (.iconst (-1)) 1 29 := ⟨by decide +kernel, rfl⟩
theorem dX6_need_29 : zD cX6_need 29 (.ireturn) 1 30 := ⟨by decide +kernel, rfl⟩
theorem dX6_need_30 : zD cX6_need 30 (.aload_n 0) 1 31 := ⟨by decide +kernel, rfl⟩
theorem dX6_need_31 : zD cX6_need 31 (.getfield 10) 3 34 := ⟨by decide +kernel, rfl⟩
theorem dX6_need_34 : zD cX6_need 34 (.getfield 140) 3 37 := ⟨by decide +kernel, rfl⟩
theorem dX6_need_37 : zD cX6_need 37 (.iload_n 1) 1 38 := ⟨by decide +kernel, rfl⟩
theorem dX6_need_38 : zD cX6_need 38 (.iaload) 1 39 := ⟨by decide +kernel, rfl⟩
theorem dX6_need_39 : zD cX6_need 39 (.istore 4) 2 41 := ⟨by decide +kernel, rfl⟩
theorem dX6_need_41 : zD cX6_need 41 (.aload_n 0) 1 42 := ⟨by decide +kernel, rfl⟩
theorem dX6_need_42 : zD cX6_need 42 (.getfield 10) 3 45 := ⟨by decide +kernel, rfl⟩
theorem dX6_need_45 : zD cX6_need 45 (.iload 4) 2 47 := ⟨by decide +kernel, rfl⟩
theorem dX6_need_47 : zD cX6_need 47 (.invokevirtual 116) 3 50 := ⟨by decide +kernel, rfl⟩
theorem dX6_need_50 : zD cX6_need 50 (.aload_n 0) 1 51 := ⟨by decide +kernel, rfl⟩
theorem dX6_need_51 : zD cX6_need 51 (.getfield 10) 3 54 := ⟨by decide +kernel, rfl⟩
theorem dX6_need_54 : zD cX6_need 54 (.getfield 143) 3 57 := ⟨by decide +kernel, rfl⟩
theorem dX6_need_57 : zD cX6_need 57 (.iload_n 1) 1 58 := ⟨by decide +kernel, rfl⟩
theorem dX6_need_58 : zD cX6_need 58 (.iaload) 1 59 := ⟨by decide +kernel, rfl⟩
theorem dX6_need_59 : zD cX6_need 59 (.isub) 1 60 := ⟨by decide +kernel, rfl⟩
theorem dX6_need_60 : zD cX6_need 60 (.istore 5) 2 62 := ⟨by decide +kernel, rfl⟩
theorem dX6_need_62 : zD cX6_need 62 (.iconst 1) 1 63 := ⟨by decide +kernel, rfl⟩
theorem dX6_need_63 : zD cX6_need 63 (.istore 6) 2 65 := ⟨by decide +kernel, rfl⟩
theorem dX6_need_65 : zD cX6_need 65 (.iload 6) 2 67 := ⟨by decide +kernel, rfl⟩
theorem dX6_need_67 : zD cX6_need 67 (.bipush 9) 2 69 := ⟨by decide +kernel, rfl⟩
theorem dX6_need_69 : zJ cX6_need 69 (fun o => .if_icmp .gt o) 100 72 := ⟨31, by decide +kernel, by decide, rfl⟩
theorem dX6_need_72 : zD cX6_need 72 (.aload_n 0) 1 73 := ⟨by decide +kernel, rfl⟩
theorem dX6_need_73 : zD cX6_need 73 (.getfield 10) 3 76 := ⟨by decide +kernel, rfl⟩
theorem dX6_need_76 : zD cX6_need 76 (.iload 4) 2 78 := ⟨by decide +kernel, rfl⟩
theorem dX6_need_78 : zD cX6_need 78 (.iload 5) 2 80 := ⟨by decide +kernel, rfl⟩
theorem dX6_need_80 : zD cX6_need 80 (.iload 6) 2 82 := ⟨by decide +kernel, rfl⟩
theorem dX6_need_82 : zD cX6_need 82 (.iadd) 1 83 := ⟨by decide +kernel, rfl⟩
theorem dX6_need_83 : zD cX6_need 83 (.iload_n 2) 1 84 := ⟨by decide +kernel, rfl⟩
theorem dX6_need_84 : zD cX6_need 84 (.invokevirtual 163) 3 87 := ⟨by decide +kernel, rfl⟩
theorem dX6_need_87 : zD cX6_need 87 (.iload_n 3) 1 88 := ⟨by decide +kernel, rfl⟩
theorem dX6_need_88 : zJ cX6_need 88 (fun o => .if_icmp .lt o) 94 91 := ⟨6, by decide +kernel, by decide, rfl⟩
theorem dX6_need_91 : zD cX6_need 91 (.iload 6) 2 93 := ⟨by decide +kernel, rfl⟩
theorem dX6_need_93 : zD cX6_need 93 (.ireturn) 1 94 := ⟨by decide +kernel, rfl⟩
theorem dX6_need_94 : zD cX6_need 94 (.iinc 6 1) 3 97 := ⟨by decide +kernel, rfl⟩
theorem dX6_need_97 : zG cX6_need 97 65 := ⟨(-32), by decide +kernel, by decide⟩
theorem dX6_need_100 : zD cX6_need 100 (.bipush (-4)) 2 102 := ⟨by decide +kernel, rfl⟩
theorem dX6_need_102 : zD cX6_need 102 (.ireturn) 1 103 := ⟨by decide +kernel, rfl⟩
theorem dX6_swap_0 : zD cX6_swap 0 (.iload_n 1) 1 1 := ⟨by decide +kernel, rfl⟩
theorem dX6_swap_1 : zD cX6_swap 1 (.iconst 0) 1 2 := ⟨by decide +kernel, rfl⟩
theorem dX6_swap_2 : zD cX6_swap 2 (.bipush 60) 2 4 := ⟨by decide +kernel, rfl⟩
theorem dX6_swap_4 : zD cX6_swap 4 (.invokestatic 66) 3 7 := ⟨by decide +kernel, rfl⟩
theorem dX6_swap_7 : zJ cX6_swap 7 (fun o => .ifCond .eq o) 19 10 := ⟨12, by decide +kernel, by decide, rfl⟩
theorem dX6_swap_10 : zD cX6_swap 10 (.iload_n 2) 1 11 := ⟨by decide +kernel, rfl⟩
theorem dX6_swap_11 : zD cX6_swap 11 (.iconst 0) 1 12 := ⟨by decide +kernel, rfl⟩
theorem dX6_swap_12 : zD cX6_swap 12 (.iconst 1) 1 13 := ⟨by decide +kernel, rfl⟩
theorem dX6_swap_13 : zD cX6_swap 13 (.invokestatic 66) 3 16 := ⟨by decide +kernel, rfl⟩
theorem dX6_swap_16 : zJ cX6_swap 16 (fun o => .ifCond .ne o) 21 19 := ⟨5, by decide +kernel, by decide, rfl⟩
theorem dX6_swap_19 : zD cX6_swap 19 (.iconst (-1)) 1 20 := ⟨by decide +kernel, rfl⟩
theorem dX6_swap_20 : zD cX6_swap 20 (.ireturn) 1 21 := ⟨by decide +kernel, rfl⟩
theorem dX6_swap_21 : zD cX6_swap 21 (.iconst 0) 1 22 := ⟨by decide +kernel, rfl⟩
theorem dX6_swap_22 : zD cX6_swap 22 (.istore_n 3) 1 23 := ⟨by decide +kernel, rfl⟩
theorem dX6_swap_23 : zD cX6_swap 23 (.bipush (-4)) 2 25 := ⟨by decide +kernel, rfl⟩
theorem dX6_swap_25 : zD cX6_swap 25 (.istore 4) 2 27 := ⟨by decide +kernel, rfl⟩
theorem dX6_swap_27 : zD cX6_swap 27 (.iconst 0) 1 28 := ⟨by decide +kernel, rfl⟩
theorem dX6_swap_28 : zD cX6_swap 28 (.istore 5) 2 30 := ⟨by decide +kernel, rfl⟩
theorem dX6_swap_30 : zD cX6_swap 30 (.iload 5) 2 32 := ⟨by decide +kernel, rfl⟩
theorem dX6_swap_32 : zD cX6_swap 32 (.aload_n 0) 1 33 := ⟨by decide +kernel, rfl⟩
theorem dX6_swap_33 : zD cX6_swap 33 (.getfield 10) 3 36 := ⟨by decide +kernel, rfl⟩
theorem dX6_swap_36 : zD cX6_swap 36 (.getfield 91) 3 39 := ⟨by decide +kernel, rfl⟩
theorem dX6_swap_39 : zJ cX6_swap 39 (fun o => .if_icmp .ge o) 140 42 := ⟨101, by decide +kernel, by decide, rfl⟩
theorem dX6_swap_42 : zD cX6_swap 42 (.iload 5) 2 44 := ⟨by decide +kernel, rfl⟩
theorem dX6_swap_44 : zD cX6_swap 44 (.iconst 1) 1 45 := ⟨by decide +kernel, rfl⟩
theorem dX6_swap_45 : zD cX6_swap 45 (.iadd) 1 46 := ⟨by decide +kernel, rfl⟩
theorem dX6_swap_46 : zD cX6_swap 46 (.istore 6) 2 48 := ⟨by decide +kernel, rfl⟩
theorem dX6_swap_48 : zD cX6_swap 48 (.iload 6) 2 50 := ⟨by decide +kernel, rfl⟩
theorem dX6_swap_50 : zD cX6_swap 50 (.aload_n 0) 1 51 := ⟨by decide +kernel, rfl⟩
theorem dX6_swap_51 : zD cX6_swap 51 (.getfield 10) 3 54 := ⟨by decide +kernel, rfl⟩
theorem dX6_swap_54 : zD cX6_swap 54 (.getfield 91) 3 57 := ⟨by decide +kernel, rfl⟩
theorem dX6_swap_57 : zJ cX6_swap 57 (fun o => .if_icmp .ge o) 134 60 := ⟨77, by decide +kernel, by decide, rfl⟩
theorem dX6_swap_60 : zD cX6_swap 60 (.aload_n 0) 1 61 := ⟨by decide +kernel, rfl⟩
theorem dX6_swap_61 : zD cX6_swap 61 (.getfield 10) 3 64 := ⟨by decide +kernel, rfl⟩
theorem dX6_swap_64 : zD cX6_swap 64 (.iload 6) 2 66 := ⟨by decide +kernel, rfl⟩
theorem dX6_swap_66 : zD cX6_swap 66 (.invokevirtual 116) 3 69 := ⟨by decide +kernel, rfl⟩
theorem dX6_swap_69 : zD cX6_swap 69 (.aload_n 0) 1 70 := ⟨by decide +kernel, rfl⟩
theorem dX6_swap_70 : zD cX6_swap 70 (.getfield 10) 3 73 := ⟨by decide +kernel, rfl⟩
theorem dX6_swap_73 : zD cX6_swap 73 (.iload 5) 2 75 := ⟨by decide +kernel, rfl⟩
theorem dX6_swap_75 : zD cX6_swap 75 (.invokevirtual 116) 3 78 := ⟨by decide +kernel, rfl⟩
theorem dX6_swap_78 : zD cX6_swap 78 (.isub) 1 79 := ⟨by decide +kernel, rfl⟩
theorem dX6_swap_79 : zD cX6_swap 79 (.istore 7) 2 81 := ⟨by decide +kernel, rfl⟩
theorem dX6_swap_81 : zD cX6_swap 81 (.aload_n 0) 1 82 := ⟨by decide +kernel, rfl⟩
theorem dX6_swap_82 : zD cX6_swap 82 (.getfield 10) 3 85 := ⟨by decide +kernel, rfl⟩
theorem dX6_swap_85 : zD cX6_swap 85 (.iload 5) 2 87 := ⟨by decide +kernel, rfl⟩
theorem dX6_swap_87 : zD cX6_swap 87 (.iload 7) 2 89 := ⟨by decide +kernel, rfl⟩
theorem dX6_swap_89 : zD cX6_swap 89 (.iload_n 1) 1 90 := ⟨by decide +kernel, rfl⟩
theorem dX6_swap_90 : zD cX6_swap 90 (.invokevirtual 186) 3 93 := ⟨by decide +kernel, rfl⟩
theorem dX6_swap_93 : zD cX6_swap 93 (.aload_n 0) 1 94 := ⟨by decide +kernel, rfl⟩
theorem dX6_swap_94 : zD cX6_swap 94 (.getfield 10) 3 97 := ⟨by decide +kernel, rfl⟩
theorem dX6_swap_97 : zD cX6_swap 97 (.iload 6) 2 99 := ⟨by decide +kernel, rfl⟩
theorem dX6_swap_99 : zD cX6_swap 99 (.iload 7) 2 101 := ⟨by decide +kernel, rfl⟩
theorem dX6_swap_101 : zD cX6_swap 101 (.ineg) 1 102 := ⟨by decide +kernel, rfl⟩
theorem dX6_swap_102 : zD cX6_swap 102 (.iload_n 1) 1 103 := ⟨by decide +kernel, rfl⟩
theorem dX6_swap_103 : zD cX6_swap 103 (.invokevirtual 186) 3 106 := ⟨by decide +kernel, rfl⟩
theorem dX6_swap_106 : zD cX6_swap 106 (.iadd) 1 107 := ⟨by decide +kernel, rfl⟩
theorem dX6_swap_107 : zD cX6_swap 107 (.istore 8) 2 109 := ⟨by decide +kernel, rfl⟩
theorem dX6_swap_109 : zD cX6_swap 109 (.iload 8) 2 111 := ⟨by decide +kernel, rfl⟩
theorem dX6_swap_111 : zD cX6_swap 111 (.iload_n 3) 1 112 := ⟨by decide +kernel, rfl⟩
theorem dX6_swap_112 : zJ cX6_swap 112 (fun o => .if_icmp .le o) 128 115 := ⟨16, by decide +kernel, by decide, rfl⟩
theorem dX6_swap_115 : zD cX6_swap 115 (.iload 8) 2 117 := ⟨by decide +kernel, rfl⟩
theorem dX6_swap_117 : zD cX6_swap 117 (.istore_n 3) 1 118 := ⟨by decide +kernel, rfl⟩
theorem dX6_swap_118 : zD cX6_swap 118 (.bipush 10) 2 120 := ⟨by decide +kernel, rfl⟩
theorem dX6_swap_120 : zD cX6_swap 120 (.iload 5) 2 122 := ⟨by decide +kernel, rfl⟩
theorem dX6_swap_122 : zD cX6_swap 122 (.imul) 1 123 := ⟨by decide +kernel, rfl⟩
theorem dX6_swap_123 : zD cX6_swap 123 (.iload 6) 2 125 := ⟨by decide +kernel, rfl⟩
theorem dX6_swap_125 : zD cX6_swap 125 (.iadd) 1 126 := ⟨by decide +kernel, rfl⟩
theorem dX6_swap_126 : zD cX6_swap 126 (.istore 4) 2 128 := ⟨by decide +kernel, rfl⟩
theorem dX6_swap_128 : zD cX6_swap 128 (.iinc 6 1) 3 131 := ⟨by decide +kernel, rfl⟩
theorem dX6_swap_131 : zG cX6_swap 131 48 := ⟨(-83), by decide +kernel, by decide⟩
theorem dX6_swap_134 : zD cX6_swap 134 (.iinc 5 1) 3 137 := ⟨by decide +kernel, rfl⟩
theorem dX6_swap_137 : zG cX6_swap 137 30 := ⟨(-107), by decide +kernel, by decide⟩
theorem dX6_swap_140 : zD cX6_swap 140 (.iload 4) 2 142 := ⟨by decide +kernel, rfl⟩
theorem dX6_swap_142 : zD cX6_swap 142 (.bipush (-4)) 2 144 := ⟨by decide +kernel, rfl⟩
theorem dX6_swap_144 : zJ cX6_swap 144 (fun o => .if_icmp .eq o) 151 147 := ⟨7, by decide +kernel, by decide, rfl⟩
theorem dX6_swap_147 : zD cX6_swap 147 (.iload_n 2) 1 148 := ⟨by decide +kernel, rfl⟩
theorem dX6_swap_148 : zJ cX6_swap 148 (fun o => .ifCond .ne o) 156 151 := ⟨8, by decide +kernel, by decide, rfl⟩
theorem dX6_swap_151 : zD cX6_swap 151 (.iload 4) 2 153 := ⟨by decide +kernel, rfl⟩
theorem dX6_swap_153 : zG cX6_swap 153 166 := ⟨13, by decide +kernel, by decide⟩
theorem dX6_swap_156 : zD cX6_swap 156 (.aload_n 0) 1 157 := ⟨by decide +kernel, rfl⟩
theorem dX6_swap_157 : zD cX6_swap 157 (.getfield 10) 3 160 := ⟨by decide +kernel, rfl⟩
theorem dX6_swap_160 : zD cX6_swap 160 (.iload_n 1) 1 161 := ⟨by decide +kernel, rfl⟩
theorem dX6_swap_161 : zD cX6_swap 161 (.invokevirtual 189) 3 164 := ⟨by decide +kernel, rfl⟩
theorem dX6_swap_164 : zD cX6_swap 164 (.iload_n 3) 1 165 := ⟨by decide +kernel, rfl⟩
theorem dX6_swap_165 : zD cX6_swap 165 (.iadd) 1 166 := ⟨by decide +kernel, rfl⟩
theorem dX6_swap_166 : zD cX6_swap 166 (.ireturn) 1 167 := ⟨by decide +kernel, rfl⟩
theorem dX6_bear_0 : zD cX6_bear 0 (.aload_n 0) 1 1 := ⟨by decide +kernel, rfl⟩
theorem dX6_bear_1 : zD cX6_bear 1 (.iload_n 1) 1 2 := ⟨by decide +kernel, rfl⟩
theorem dX6_bear_2 : zD cX6_bear 2 (.invokevirtual 113) 3 5 := ⟨by decide +kernel, rfl⟩
theorem dX6_bear_5 : zJ cX6_bear 5 (fun o => .ifCond .eq o) 28 8 := ⟨23, by decide +kernel, by decide, rfl⟩
theorem dX6_bear_8 : zD cX6_bear 8 (.iload_n 2) 1 9 := ⟨by decide +kernel, rfl⟩
theorem dX6_bear_9 : zD cX6_bear 9 (.iconst 0) 1 10 := ⟨by decide +kernel, rfl⟩
theorem dX6_bear_10 : zD cX6_bear 10 (.bipush 60) 2 12 := ⟨by decide +kernel, rfl⟩
theorem dX6_bear_12 : zD cX6_bear 12 (.invokestatic 66) 3 15 := ⟨by decide +kernel, rfl⟩
theorem dX6_bear_15 : zJ cX6_bear 15 (fun o => .ifCond .eq o) 28 18 := ⟨13, by decide +kernel, by decide, rfl⟩
theorem dX6_bear_18 : zD cX6_bear 18 (.iload_n 3) 1 19 := ⟨by decide +kernel, rfl⟩
theorem dX6_bear_19 : zD cX6_bear 19 (.iconst 0) 1 20 := ⟨by decide +kernel, rfl⟩
theorem dX6_bear_20 : zD cX6_bear 20 (.bipush 99) 2 22 := ⟨by decide +kernel, rfl⟩
theorem dX6_bear_22 : zD cX6_bear 22 (.invokestatic 66) 3 25 := ⟨by decide +kernel, rfl⟩
theorem dX6_bear_25 : zJ cX6_bear 25 (fun o => .ifCond .ne o) 30 28 := ⟨5, by decide +kernel, by decide, rfl⟩
theorem dX6_bear_28 : zD cX6_bear 28 (.iconst (-1)) 1 29 := ⟨by decide +kernel, rfl⟩
theorem dX6_bear_29 : zD cX6_bear 29 (.ireturn) 1 30 := ⟨by decide +kernel, rfl⟩
theorem dX6_bear_30 : zD cX6_bear 30 (.aload_n 0) 1 31 := ⟨by decide +kernel, rfl⟩
theorem dX6_bear_31 : zD cX6_bear 31 (.getfield 10) 3 34 := ⟨by decide +kernel, rfl⟩
theorem dX6_bear_34 : zD cX6_bear 34 (.iload_n 1) 1 35 := ⟨by decide +kernel, rfl⟩
theorem dX6_bear_35 : zD cX6_bear 35 (.invokevirtual 116) 3 38 := ⟨by decide +kernel, rfl⟩
theorem dX6_bear_38 : zD cX6_bear 38 (.istore 4) 2 40 := ⟨by decide +kernel, rfl⟩
theorem dX6_bear_40 : zD cX6_bear 40 (.bipush 9) 2 42 := ⟨by decide +kernel, rfl⟩
theorem dX6_bear_42 : zD cX6_bear 42 (.istore 5) 2 44 := ⟨by decide +kernel, rfl⟩
theorem dX6_bear_44 : zD cX6_bear 44 (.iload 5) 2 46 := ⟨by decide +kernel, rfl⟩
theorem dX6_bear_46 : zJ cX6_bear 46 (fun o => .ifCond .lt o) 88 49 := ⟨42, by decide +kernel, by decide, rfl⟩
theorem dX6_bear_49 : zD cX6_bear 49 (.aload_n 0) 1 50 := ⟨by decide +kernel, rfl⟩
theorem dX6_bear_50 : zD cX6_bear 50 (.getfield 10) 3 53 := ⟨by decide +kernel, rfl⟩
theorem dX6_bear_53 : zD cX6_bear 53 (.getfield 120) 3 56 := ⟨by decide +kernel, rfl⟩
theorem dX6_bear_56 : zD cX6_bear 56 (.iload_n 1) 1 57 := ⟨by decide +kernel, rfl⟩
theorem dX6_bear_57 : zD cX6_bear 57 (.iaload) 1 58 := ⟨by decide +kernel, rfl⟩
theorem dX6_bear_58 : zD cX6_bear 58 (.aload_n 0) 1 59 := ⟨by decide +kernel, rfl⟩
theorem dX6_bear_59 : zD cX6_bear 59 (.getfield 10) 3 62 := ⟨by decide +kernel, rfl⟩
theorem dX6_bear_62 : zD cX6_bear 62 (.getfield 124) 3 65 := ⟨by decide +kernel, rfl⟩
theorem dX6_bear_65 : zD cX6_bear 65 (.iload_n 1) 1 66 := ⟨by decide +kernel, rfl⟩
theorem dX6_bear_66 : zD cX6_bear 66 (.iaload) 1 67 := ⟨by decide +kernel, rfl⟩
theorem dX6_bear_67 : zD cX6_bear 67 (.iload 5) 2 69 := ⟨by decide +kernel, rfl⟩
theorem dX6_bear_69 : zD cX6_bear 69 (.iload 4) 2 71 := ⟨by decide +kernel, rfl⟩
theorem dX6_bear_71 : zD cX6_bear 71 (.iload_n 2) 1 72 := ⟨by decide +kernel, rfl⟩
theorem dX6_bear_72 : zD cX6_bear 72 (.invokestatic 195) 3 75 := ⟨by decide +kernel, rfl⟩
theorem dX6_bear_75 : zD cX6_bear 75 (.iload_n 3) 1 76 := ⟨by decide +kernel, rfl⟩
theorem dX6_bear_76 : zJ cX6_bear 76 (fun o => .if_icmp .lt o) 82 79 := ⟨6, by decide +kernel, by decide, rfl⟩
theorem dX6_bear_79 : zD cX6_bear 79 (.iload 5) 2 81 := ⟨by decide +kernel, rfl⟩
theorem dX6_bear_81 : zD cX6_bear 81 (.ireturn) 1 82 := ⟨by decide +kernel, rfl⟩
theorem dX6_bear_82 : zD cX6_bear 82 (.iinc 5 (-1)) 3 85 := ⟨by decide +kernel, rfl⟩
theorem dX6_bear_85 : zG cX6_bear 85 44 := ⟨(-41), by decide +kernel, by decide⟩
theorem dX6_bear_88 : zD cX6_bear 88 (.bipush (-4)) 2 90 := ⟨by decide +kernel, rfl⟩
theorem dX6_bear_90 : zD cX6_bear 90 (.ireturn) 1 91 := ⟨by decide +kernel, rfl⟩
theorem dX6_kind_0 : zD cX6_kind 0 (.aload_n 0) 1 1 := ⟨by decide +kernel, rfl⟩
theorem dX6_kind_1 : zD cX6_kind 1 (.iload_n 1) 1 2 := ⟨by decide +kernel, rfl⟩
theorem dX6_kind_2 : zD cX6_kind 2 (.invokevirtual 113) 3 5 := ⟨by decide +kernel, rfl⟩
theorem dX6_kind_5 : zJ cX6_kind 5 (fun o => .ifCond .eq o) 27 8 := ⟨22, by decide +kernel, by decide, rfl⟩
theorem dX6_kind_8 : zD cX6_kind 8 (.iload_n 2) 1 9 := ⟨by decide +kernel, rfl⟩
theorem dX6_kind_9 : zD cX6_kind 9 (.iconst 0) 1 10 := ⟨by decide +kernel, rfl⟩
theorem dX6_kind_10 : zD cX6_kind 10 (.bipush 60) 2 12 := ⟨by decide +kernel, rfl⟩
theorem dX6_kind_12 : zD cX6_kind 12 (.invokestatic 66) 3 15 := ⟨by decide +kernel, rfl⟩
theorem dX6_kind_15 : zJ cX6_kind 15 (fun o => .ifCond .eq o) 27 18 := ⟨12, by decide +kernel, by decide, rfl⟩
theorem dX6_kind_18 : zD cX6_kind 18 (.iload_n 3) 1 19 := ⟨by decide +kernel, rfl⟩
theorem dX6_kind_19 : zD cX6_kind 19 (.iconst 0) 1 20 := ⟨by decide +kernel, rfl⟩
theorem dX6_kind_20 : zD cX6_kind 20 (.iconst 1) 1 21 := ⟨by decide +kernel, rfl⟩
theorem dX6_kind_21 : zD cX6_kind 21 (.invokestatic 66) 3 24 := ⟨by decide +kernel, rfl⟩
theorem dX6_kind_24 : zJ cX6_kind 24 (fun o => .ifCond .ne o) 29 27 := ⟨5, by decide +kernel, by decide, rfl⟩
theorem dX6_kind_27 : zD cX6_kind 27 (.iconst (-1)) 1 28 := ⟨by decide +kernel, rfl⟩
theorem dX6_kind_28 : zD cX6_kind 28 (.ireturn) 1 29 := ⟨by decide +kernel, rfl⟩
theorem dX6_kind_29 : zD cX6_kind 29 (.aload_n 0) 1 30 := ⟨by decide +kernel, rfl⟩
theorem dX6_kind_30 : zD cX6_kind 30 (.getfield 10) 3 33 := ⟨by decide +kernel, rfl⟩
theorem dX6_kind_33 : zD cX6_kind 33 (.iload_n 1) 1 34 := ⟨by decide +kernel, rfl⟩
theorem dX6_kind_34 : zD cX6_kind 34 (.invokevirtual 116) 3 37 := ⟨by decide +kernel, rfl⟩
theorem dX6_kind_37 : zD cX6_kind 37 (.istore 4) 2 39 := ⟨by decide +kernel, rfl⟩
theorem dX6_kind_39 : zD cX6_kind 39 (.iconst (-1)) 1 40 := ⟨by decide +kernel, rfl⟩
theorem dX6_kind_40 : zD cX6_kind 40 (.istore 5) 2 42 := ⟨by decide +kernel, rfl⟩
theorem dX6_kind_42 : zD cX6_kind 42 (.iconst 0) 1 43 := ⟨by decide +kernel, rfl⟩
theorem dX6_kind_43 : zD cX6_kind 43 (.istore 6) 2 45 := ⟨by decide +kernel, rfl⟩
theorem dX6_kind_45 : zD cX6_kind 45 (.iconst 0) 1 46 := ⟨by decide +kernel, rfl⟩
theorem dX6_kind_46 : zD cX6_kind 46 (.istore 7) 2 48 := ⟨by decide +kernel, rfl⟩
theorem dX6_kind_48 : zD cX6_kind 48 (.iload 7) 2 50 := ⟨by decide +kernel, rfl⟩
theorem dX6_kind_50 : zD cX6_kind 50 (.iconst 4) 1 51 := ⟨by decide +kernel, rfl⟩
theorem dX6_kind_51 : zJ cX6_kind 51 (fun o => .if_icmp .ge o) 103 54 := ⟨52, by decide +kernel, by decide, rfl⟩
theorem dX6_kind_54 : zD cX6_kind 54 (.iload 7) 2 56 := ⟨by decide +kernel, rfl⟩
theorem dX6_kind_56 : zD cX6_kind 56 (.aload_n 0) 1 57 := ⟨by decide +kernel, rfl⟩
theorem dX6_kind_57 : zD cX6_kind 57 (.getfield 10) 3 60 := ⟨by decide +kernel, rfl⟩
theorem dX6_kind_60 : zD cX6_kind 60 (.getfield 124) 3 63 := ⟨by decide +kernel, rfl⟩
theorem dX6_kind_63 : zD cX6_kind 63 (.iload_n 1) 1 64 := ⟨by decide +kernel, rfl⟩
theorem dX6_kind_64 : zD cX6_kind 64 (.iaload) 1 65 := ⟨by decide +kernel, rfl⟩
theorem dX6_kind_65 : zD cX6_kind 65 (.aload_n 0) 1 66 := ⟨by decide +kernel, rfl⟩
theorem dX6_kind_66 : zD cX6_kind 66 (.getfield 10) 3 69 := ⟨by decide +kernel, rfl⟩
theorem dX6_kind_69 : zD cX6_kind 69 (.getfield 127) 3 72 := ⟨by decide +kernel, rfl⟩
theorem dX6_kind_72 : zD cX6_kind 72 (.iload_n 1) 1 73 := ⟨by decide +kernel, rfl⟩
theorem dX6_kind_73 : zD cX6_kind 73 (.iaload) 1 74 := ⟨by decide +kernel, rfl⟩
theorem dX6_kind_74 : zD cX6_kind 74 (.iload 4) 2 76 := ⟨by decide +kernel, rfl⟩
theorem dX6_kind_76 : zD cX6_kind 76 (.iload_n 2) 1 77 := ⟨by decide +kernel, rfl⟩
theorem dX6_kind_77 : zD cX6_kind 77 (.invokestatic 195) 3 80 := ⟨by decide +kernel, rfl⟩
theorem dX6_kind_80 : zD cX6_kind 80 (.istore 8) 2 82 := ⟨by decide +kernel, rfl⟩
theorem dX6_kind_82 : zD cX6_kind 82 (.iload 8) 2 84 := ⟨by decide +kernel, rfl⟩
theorem dX6_kind_84 : zD cX6_kind 84 (.iload 5) 2 86 := ⟨by decide +kernel, rfl⟩
theorem dX6_kind_86 : zJ cX6_kind 86 (fun o => .if_icmp .le o) 97 89 := ⟨11, by decide +kernel, by decide, rfl⟩
theorem dX6_kind_89 : zD cX6_kind 89 (.iload 8) 2 91 := ⟨by decide +kernel, rfl⟩
theorem dX6_kind_91 : zD cX6_kind 91 (.istore 5) 2 93 := ⟨by decide +kernel, rfl⟩
theorem dX6_kind_93 : zD cX6_kind 93 (.iload 7) 2 95 := ⟨by decide +kernel, rfl⟩
theorem dX6_kind_95 : zD cX6_kind 95 (.istore 6) 2 97 := ⟨by decide +kernel, rfl⟩
theorem dX6_kind_97 : zD cX6_kind 97 (.iinc 7 1) 3 100 := ⟨by decide +kernel, rfl⟩
theorem dX6_kind_100 : zG cX6_kind 100 48 := ⟨(-52), by decide +kernel, by decide⟩
theorem dX6_kind_103 : zD cX6_kind 103 (.iload_n 3) 1 104 := ⟨by decide +kernel, rfl⟩
theorem dX6_kind_104 : zJ cX6_kind 104 (fun o => .ifCond .ne o) 112 107 := ⟨8, by decide +kernel, by decide, rfl⟩
theorem dX6_kind_107 : zD cX6_kind 107 (.iload 6) 2 109 := ⟨by decide +kernel, rfl⟩
theorem dX6_kind_109 : zG cX6_kind 109 135 := ⟨26, by decide +kernel, by decide⟩
theorem dX6_kind_112 : zD cX6_kind 112 (.aload_n 0) 1 113 := ⟨by decide +kernel, rfl⟩
theorem dX6_kind_113 : zD cX6_kind 113 (.getfield 10) 3 116 := ⟨by decide +kernel, rfl⟩
theorem dX6_kind_116 : zD cX6_kind 116 (.iload_n 2) 1 117 := ⟨by decide +kernel, rfl⟩
theorem dX6_kind_117 : zD cX6_kind 117 (.invokevirtual 189) 3 120 := ⟨by decide +kernel, rfl⟩
theorem dX6_kind_120 : zD cX6_kind 120 (.aload_n 0) 1 121 := ⟨by decide +kernel, rfl⟩
theorem dX6_kind_121 : zD cX6_kind 121 (.getfield 10) 3 124 := ⟨by decide +kernel, rfl⟩
theorem dX6_kind_124 : zD cX6_kind 124 (.iload_n 1) 1 125 := ⟨by decide +kernel, rfl⟩
theorem dX6_kind_125 : zD cX6_kind 125 (.iload 4) 2 127 := ⟨by decide +kernel, rfl⟩
theorem dX6_kind_127 : zD cX6_kind 127 (.iload_n 2) 1 128 := ⟨by decide +kernel, rfl⟩
theorem dX6_kind_128 : zD cX6_kind 128 (.invokevirtual 163) 3 131 := ⟨by decide +kernel, rfl⟩
theorem dX6_kind_131 : zD cX6_kind 131 (.isub) 1 132 := ⟨by decide +kernel, rfl⟩
theorem dX6_kind_132 : zD cX6_kind 132 (.iload 5) 2 134 := ⟨by decide +kernel, rfl⟩
theorem dX6_kind_134 : zD cX6_kind 134 (.iadd) 1 135 := ⟨by decide +kernel, rfl⟩
theorem dX6_kind_135 : zD cX6_kind 135 (.ireturn) 1 136 := ⟨by decide +kernel, rfl⟩
theorem dX6_luck_0 : zD cX6_luck 0 (.iload_n 1) 1 1 := ⟨by decide +kernel, rfl⟩
theorem dX6_luck_1 : zD cX6_luck 1 (.iconst 0) 1 2 := ⟨by decide +kernel, rfl⟩
theorem dX6_luck_2 : zD cX6_luck 2 (.bipush 10) 2 4 := ⟨by decide +kernel, rfl⟩
theorem dX6_luck_4 : zD cX6_luck 4 (.invokestatic 66) 3 7 := ⟨by decide +kernel, rfl⟩
theorem dX6_luck_7 : zJ cX6_luck 7 (fun o => .ifCond .eq o) 49 10 := ⟨42, by decide +kernel, by decide, rfl⟩
theorem dX6_luck_10 : zD cX6_luck 10 (.aload_n 0) 1 11 := ⟨by decide +kernel, rfl⟩
theorem dX6_luck_11 : zD cX6_luck 11 (.iload_n 2) 1 12 := ⟨by decide +kernel, rfl⟩
theorem dX6_luck_12 : zD cX6_luck 12 (.invokevirtual 113) 3 15 := ⟨by decide +kernel, rfl⟩
theorem dX6_luck_15 : zJ cX6_luck 15 (fun o => .ifCond .eq o) 49 18 := ⟨34, by decide +kernel, by decide, rfl⟩
theorem dX6_luck_18 : zD cX6_luck 18 (.iload_n 3) 1 19 := ⟨by decide +kernel, rfl⟩
theorem dX6_luck_19 : zD cX6_luck 19 (.iconst 0) 1 20 := ⟨by decide +kernel, rfl⟩
theorem dX6_luck_20 : zD cX6_luck 20 (.bipush 8) 2 22 := ⟨by decide +kernel, rfl⟩
theorem dX6_luck_22 : zD cX6_luck 22 (.invokestatic 66) 3 25 := ⟨by decide +kernel, rfl⟩
theorem dX6_luck_25 : zJ cX6_luck 25 (fun o => .ifCond .eq o) 49 28 := ⟨24, by decide +kernel, by decide, rfl⟩
theorem dX6_luck_28 : zD cX6_luck 28 (.iload 4) 2 30 := ⟨by decide +kernel, rfl⟩
theorem dX6_luck_30 : zD cX6_luck 30 (.iconst 0) 1 31 := ⟨by decide +kernel, rfl⟩
theorem dX6_luck_31 : zD cX6_luck 31 (.bipush 99) 2 33 := ⟨by decide +kernel, rfl⟩
theorem dX6_luck_33 : zD cX6_luck 33 (.invokestatic 66) 3 36 := ⟨by decide +kernel, rfl⟩
theorem dX6_luck_36 : zJ cX6_luck 36 (fun o => .ifCond .eq o) 49 39 := ⟨13, by decide +kernel, by decide, rfl⟩
theorem dX6_luck_39 : zD cX6_luck 39 (.iload 5) 2 41 := ⟨by decide +kernel, rfl⟩
theorem dX6_luck_41 : zD cX6_luck 41 (.iconst 0) 1 42 := ⟨by decide +kernel, rfl⟩
theorem dX6_luck_42 : zD cX6_luck 42 (.iconst 1) 1 43 := ⟨by decide +kernel, rfl⟩
theorem dX6_luck_43 : zD cX6_luck 43 (.invokestatic 66) 3 46 := ⟨by decide +kernel, rfl⟩
theorem dX6_luck_46 : zJ cX6_luck 46 (fun o => .ifCond .ne o) 53 49 := ⟨7, by decide +kernel, by decide, rfl⟩
theorem dX6_luck_49 : zD cX6_luck 49 (.ldc2_w 199) 3 52 := ⟨by decide +kernel, rfl⟩
theorem dX6_luck_52 : zD cX6_luck 52 (.lreturn) 1 53 := ⟨by decide +kernel, rfl⟩
theorem dX6_luck_53 : zD cX6_luck 53 (.aload_n 0) 1 54 := ⟨by decide +kernel, rfl⟩
theorem dX6_luck_54 : zD cX6_luck 54 (.getfield 44) 3 57 := ⟨by decide +kernel, rfl⟩
theorem dX6_luck_57 : zD cX6_luck 57 (.aload_n 0) 1 58 := ⟨by decide +kernel, rfl⟩
theorem dX6_luck_58 : zD cX6_luck 58 (.getfield 10) 3 61 := ⟨by decide +kernel, rfl⟩
theorem dX6_luck_61 : zD cX6_luck 61 (.iload_n 2) 1 62 := ⟨by decide +kernel, rfl⟩
theorem dX6_luck_62 : zD cX6_luck 62 (.iload_n 3) 1 63 := ⟨by decide +kernel, rfl⟩
theorem dX6_luck_63 : zD cX6_luck 63 (.iload_n 1) 1 64 := ⟨by decide +kernel, rfl⟩
theorem dX6_luck_64 : zD cX6_luck 64 (.invokevirtual 201) 3 67 := ⟨by decide +kernel, rfl⟩
theorem dX6_luck_67 : zD cX6_luck 67 (.aload_n 0) 1 68 := ⟨by decide +kernel, rfl⟩
theorem dX6_luck_68 : zD cX6_luck 68 (.getfield 44) 3 71 := ⟨by decide +kernel, rfl⟩
theorem dX6_luck_71 : zD cX6_luck 71 (.iload 4) 2 73 := ⟨by decide +kernel, rfl⟩
theorem dX6_luck_73 : zD cX6_luck 73 (.invokevirtual 205) 3 76 := ⟨by decide +kernel, rfl⟩
theorem dX6_luck_76 : zD cX6_luck 76 (.iload_n 3) 1 77 := ⟨by decide +kernel, rfl⟩
theorem dX6_luck_77 : zD cX6_luck 77 (.invokestatic 209) 3 80 := ⟨by decide +kernel, rfl⟩
theorem dX6_luck_80 : zD cX6_luck 80 (.iload 5) 2 82 := ⟨by decide +kernel, rfl⟩
theorem dX6_luck_82 : zD cX6_luck 82 (.invokestatic 212) 3 85 := ⟨by decide +kernel, rfl⟩
theorem dX6_luck_85 : zD cX6_luck 85 (.lreturn) 1 86 := ⟨by decide +kernel, rfl⟩
theorem dX6_mean_0 : zD cX6_mean 0 (.iload_n 1) 1 1 := ⟨by decide +kernel, rfl⟩
theorem dX6_mean_1 : zD cX6_mean 1 (.iconst 0) 1 2 := ⟨by decide +kernel, rfl⟩
theorem dX6_mean_2 : zD cX6_mean 2 (.bipush 10) 2 4 := ⟨by decide +kernel, rfl⟩
theorem dX6_mean_4 : zD cX6_mean 4 (.invokestatic 66) 3 7 := ⟨by decide +kernel, rfl⟩
theorem dX6_mean_7 : zJ cX6_mean 7 (fun o => .ifCond .eq o) 29 10 := ⟨22, by decide +kernel, by decide, rfl⟩
theorem dX6_mean_10 : zD cX6_mean 10 (.iload_n 2) 1 11 := ⟨by decide +kernel, rfl⟩
theorem dX6_mean_11 : zD cX6_mean 11 (.iconst 0) 1 12 := ⟨by decide +kernel, rfl⟩
theorem dX6_mean_12 : zD cX6_mean 12 (.bipush 8) 2 14 := ⟨by decide +kernel, rfl⟩
theorem dX6_mean_14 : zD cX6_mean 14 (.invokestatic 66) 3 17 := ⟨by decide +kernel, rfl⟩
theorem dX6_mean_17 : zJ cX6_mean 17 (fun o => .ifCond .eq o) 29 20 := ⟨12, by decide +kernel, by decide, rfl⟩
theorem dX6_mean_20 : zD cX6_mean 20 (.iload_n 3) 1 21 := ⟨by decide +kernel, rfl⟩
theorem dX6_mean_21 : zD cX6_mean 21 (.iconst 0) 1 22 := ⟨by decide +kernel, rfl⟩
theorem dX6_mean_22 : zD cX6_mean 22 (.iconst 1) 1 23 := ⟨by decide +kernel, rfl⟩
theorem dX6_mean_23 : zD cX6_mean 23 (.invokestatic 66) 3 26 := ⟨by decide +kernel, rfl⟩
theorem dX6_mean_26 : zJ cX6_mean 26 (fun o => .ifCond .ne o) 33 29 := ⟨7, by decide +kernel, by decide, rfl⟩
theorem dX6_mean_29 : zD cX6_mean 29 (.ldc2_w 199) 3 32 := ⟨by decide +kernel, rfl⟩
theorem dX6_mean_32 : zD cX6_mean 32 (.lreturn) 1 33 := ⟨by decide +kernel, rfl⟩
theorem dX6_mean_33 : zD cX6_mean 33 (.lconst 0) 1 34 := ⟨by decide +kernel, rfl⟩
theorem dX6_mean_34 : zD cX6_mean 34 (.lstore 4) 2 36 := ⟨by decide +kernel, rfl⟩
theorem dX6_mean_36 : zD cX6_mean 36 (.iconst 0) 1 37 := ⟨by decide +kernel, rfl⟩
theorem dX6_mean_37 : zD cX6_mean 37 (.istore 6) 2 39 := ⟨by decide +kernel, rfl⟩
theorem dX6_mean_39 : zD cX6_mean 39 (.iload 6) 2 41 := ⟨by decide +kernel, rfl⟩
theorem dX6_mean_41 : zD cX6_mean 41 (.aload_n 0) 1 42 := ⟨by decide +kernel, rfl⟩
theorem dX6_mean_42 : zD cX6_mean 42 (.getfield 10) 3 45 := ⟨by decide +kernel, rfl⟩
theorem dX6_mean_45 : zD cX6_mean 45 (.getfield 91) 3 48 := ⟨by decide +kernel, rfl⟩
theorem dX6_mean_48 : zJ cX6_mean 48 (fun o => .if_icmp .ge o) 84 51 := ⟨36, by decide +kernel, by decide, rfl⟩
theorem dX6_mean_51 : zD cX6_mean 51 (.aload_n 0) 1 52 := ⟨by decide +kernel, rfl⟩
theorem dX6_mean_52 : zD cX6_mean 52 (.getfield 44) 3 55 := ⟨by decide +kernel, rfl⟩
theorem dX6_mean_55 : zD cX6_mean 55 (.aload_n 0) 1 56 := ⟨by decide +kernel, rfl⟩
theorem dX6_mean_56 : zD cX6_mean 56 (.getfield 10) 3 59 := ⟨by decide +kernel, rfl⟩
theorem dX6_mean_59 : zD cX6_mean 59 (.iload 6) 2 61 := ⟨by decide +kernel, rfl⟩
theorem dX6_mean_61 : zD cX6_mean 61 (.iload_n 2) 1 62 := ⟨by decide +kernel, rfl⟩
theorem dX6_mean_62 : zD cX6_mean 62 (.iload_n 1) 1 63 := ⟨by decide +kernel, rfl⟩
theorem dX6_mean_63 : zD cX6_mean 63 (.invokevirtual 201) 3 66 := ⟨by decide +kernel, rfl⟩
theorem dX6_mean_66 : zD cX6_mean 66 (.lload 4) 2 68 := ⟨by decide +kernel, rfl⟩
theorem dX6_mean_68 : zD cX6_mean 68 (.aload_n 0) 1 69 := ⟨by decide +kernel, rfl⟩
theorem dX6_mean_69 : zD cX6_mean 69 (.getfield 44) 3 72 := ⟨by decide +kernel, rfl⟩
theorem dX6_mean_72 : zD cX6_mean 72 (.invokevirtual 216) 3 75 := ⟨by decide +kernel, rfl⟩
theorem dX6_mean_75 : zD cX6_mean 75 (.ladd) 1 76 := ⟨by decide +kernel, rfl⟩
theorem dX6_mean_76 : zD cX6_mean 76 (.lstore 4) 2 78 := ⟨by decide +kernel, rfl⟩
theorem dX6_mean_78 : zD cX6_mean 78 (.iinc 6 1) 3 81 := ⟨by decide +kernel, rfl⟩
theorem dX6_mean_81 : zG cX6_mean 81 39 := ⟨(-42), by decide +kernel, by decide⟩
theorem dX6_mean_84 : zD cX6_mean 84 (.lload 4) 2 86 := ⟨by decide +kernel, rfl⟩
theorem dX6_mean_86 : zD cX6_mean 86 (.iload_n 2) 1 87 := ⟨by decide +kernel, rfl⟩
theorem dX6_mean_87 : zD cX6_mean 87 (.invokestatic 209) 3 90 := ⟨by decide +kernel, rfl⟩
theorem dX6_mean_90 : zD cX6_mean 90 (.iload_n 3) 1 91 := ⟨by decide +kernel, rfl⟩
theorem dX6_mean_91 : zD cX6_mean 91 (.invokestatic 212) 3 94 := ⟨by decide +kernel, rfl⟩
theorem dX6_mean_94 : zD cX6_mean 94 (.lreturn) 1 95 := ⟨by decide +kernel, rfl⟩
theorem dX6_tenToThe_0 : zD cX6_tenToThe 0 (.lconst 1) 1 1 := ⟨by decide +kernel, rfl⟩
theorem dX6_tenToThe_1 : zD cX6_tenToThe 1 (.lstore_n 1) 1 2 := ⟨by decide +kernel, rfl⟩
theorem dX6_tenToThe_2 : zD cX6_tenToThe 2 (.iconst 0) 1 3 := ⟨by decide +kernel, rfl⟩
theorem dX6_tenToThe_3 : zD cX6_tenToThe 3 (.istore_n 3) 1 4 := ⟨by decide +kernel, rfl⟩
theorem dX6_tenToThe_4 : zD cX6_tenToThe 4 (.iload_n 3) 1 5 := ⟨by decide +kernel, rfl⟩
theorem dX6_tenToThe_5 : zD cX6_tenToThe 5 (.iload_n 0) 1 6 := ⟨by decide +kernel, rfl⟩
theorem dX6_tenToThe_6 : zJ cX6_tenToThe 6 (fun o => .if_icmp .ge o) 21 9 := ⟨15, by decide +kernel, by decide, rfl⟩
theorem dX6_tenToThe_9 : zD cX6_tenToThe 9 (.lload_n 1) 1 10 := ⟨by decide +kernel, rfl⟩
theorem dX6_tenToThe_10 : zD cX6_tenToThe 10 (.ldc2_w 220) 3 13 := ⟨by decide +kernel, rfl⟩
theorem dX6_tenToThe_13 : zD cX6_tenToThe 13 (.lmul) 1 14 := ⟨by decide +kernel, rfl⟩
theorem dX6_tenToThe_14 : zD cX6_tenToThe 14 (.lstore_n 1) 1 15 := ⟨by decide +kernel, rfl⟩
theorem dX6_tenToThe_15 : zD cX6_tenToThe 15 (.iinc 3 1) 3 18 := ⟨by decide +kernel, rfl⟩
theorem dX6_tenToThe_18 : zG cX6_tenToThe 18 4 := ⟨(-14), by decide +kernel, by decide⟩
theorem dX6_tenToThe_21 : zD cX6_tenToThe 21 (.lload_n 1) 1 22 := ⟨by decide +kernel, rfl⟩
theorem dX6_tenToThe_22 : zD cX6_tenToThe 22 (.lreturn) 1 23 := ⟨by decide +kernel, rfl⟩
theorem dX6_lowestTerms_0 : zD cX6_lowestTerms 0 (.lload_n 2) 1 1 := ⟨by decide +kernel, rfl⟩
theorem dX6_lowestTerms_1 : zD cX6_lowestTerms 1 (.lstore 5) 2 3 := ⟨by decide +kernel, rfl⟩
theorem dX6_lowestTerms_3 : zD cX6_lowestTerms 3 (.lload_n 0) 1 4 := ⟨by decide +kernel, rfl⟩
theorem dX6_lowestTerms_4 : zD cX6_lowestTerms 4 (.lstore 7) 2 6 := ⟨by decide +kernel, rfl⟩
theorem dX6_lowestTerms_6 : zD cX6_lowestTerms 6 (.iconst 0) 1 7 := ⟨by decide +kernel, rfl⟩
theorem dX6_lowestTerms_7 : zD cX6_lowestTerms 7 (.istore 9) 2 9 := ⟨by decide +kernel, rfl⟩
theorem dX6_lowestTerms_9 : zD cX6_lowestTerms 9 (.iload 9) 2 11 := ⟨by decide +kernel, rfl⟩
theorem dX6_lowestTerms_11 : zD cX6_lowestTerms 11 (.sipush 200) 3 14 := ⟨by decide +kernel, rfl⟩
theorem dX6_lowestTerms_14 : zJ cX6_lowestTerms 14 (fun o => .if_icmp .ge o) 45 17 := ⟨31, by decide +kernel, by decide, rfl⟩
theorem dX6_lowestTerms_17 : zD cX6_lowestTerms 17 (.lload 7) 2 19 := ⟨by decide +kernel, rfl⟩
theorem dX6_lowestTerms_19 : zD cX6_lowestTerms 19 (.lconst 0) 1 20 := ⟨by decide +kernel, rfl⟩
theorem dX6_lowestTerms_20 : zD cX6_lowestTerms 20 (.lcmp) 1 21 := ⟨by decide +kernel, rfl⟩
theorem dX6_lowestTerms_21 : zJ cX6_lowestTerms 21 (fun o => .ifCond .eq o) 45 24 := ⟨24, by decide +kernel, by decide, rfl⟩
theorem dX6_lowestTerms_24 : zD cX6_lowestTerms 24 (.lload 5) 2 26 := ⟨by decide +kernel, rfl⟩
theorem dX6_lowestTerms_26 : zD cX6_lowestTerms 26 (.lload 7) 2 28 := ⟨by decide +kernel, rfl⟩
theorem dX6_lowestTerms_28 : zD cX6_lowestTerms 28 (.lrem) 1 29 := ⟨by decide +kernel, rfl⟩
theorem dX6_lowestTerms_29 : zD cX6_lowestTerms 29 (.lstore 10) 2 31 := ⟨by decide +kernel, rfl⟩
theorem dX6_lowestTerms_31 : zD cX6_lowestTerms 31 (.lload 7) 2 33 := ⟨by decide +kernel, rfl⟩
theorem dX6_lowestTerms_33 : zD cX6_lowestTerms 33 (.lstore 5) 2 35 := ⟨by decide +kernel, rfl⟩
theorem dX6_lowestTerms_35 : zD cX6_lowestTerms 35 (.lload 10) 2 37 := ⟨by decide +kernel, rfl⟩
theorem dX6_lowestTerms_37 : zD cX6_lowestTerms 37 (.lstore 7) 2 39 := ⟨by decide +kernel, rfl⟩
theorem dX6_lowestTerms_39 : zD cX6_lowestTerms 39 (.iinc 9 1) 3 42 := ⟨by decide +kernel, rfl⟩
theorem dX6_lowestTerms_42 : zG cX6_lowestTerms 42 9 := ⟨(-33), by decide +kernel, by decide⟩
theorem dX6_lowestTerms_45 : zD cX6_lowestTerms 45 (.lload 5) 2 47 := ⟨by decide +kernel, rfl⟩
theorem dX6_lowestTerms_47 : zD cX6_lowestTerms 47 (.lconst 0) 1 48 := ⟨by decide +kernel, rfl⟩
theorem dX6_lowestTerms_48 : zD cX6_lowestTerms 48 (.lcmp) 1 49 := ⟨by decide +kernel, rfl⟩
theorem dX6_lowestTerms_49 : zJ cX6_lowestTerms 49 (fun o => .ifCond .ne o) 54 52 := ⟨5, by decide +kernel, by decide, rfl⟩
theorem dX6_lowestTerms_52 : zD cX6_lowestTerms 52 (.lconst 0) 1 53 := ⟨by decide +kernel, rfl⟩
theorem dX6_lowestTerms_53 : zD cX6_lowestTerms 53 (.lreturn) 1 54 := ⟨by decide +kernel, rfl⟩
theorem dX6_lowestTerms_54 : zD cX6_lowestTerms 54 (.iload 4) 2 56 := ⟨by decide +kernel, rfl⟩
theorem dX6_lowestTerms_56 : zJ cX6_lowestTerms 56 (fun o => .ifCond .ne o) 66 59 := ⟨10, by decide +kernel, by decide, rfl⟩
theorem dX6_lowestTerms_59 : zD cX6_lowestTerms 59 (.lload_n 0) 1 60 := ⟨by decide +kernel, rfl⟩
theorem dX6_lowestTerms_60 : zD cX6_lowestTerms 60 (.lload 5) 2 62 := ⟨by decide +kernel, rfl⟩
theorem dX6_lowestTerms_62 : zD cX6_lowestTerms 62 (.ldiv) 1 63 := ⟨by decide +kernel, rfl⟩
theorem dX6_lowestTerms_63 : zG cX6_lowestTerms 63 70 := ⟨7, by decide +kernel, by decide⟩
theorem dX6_lowestTerms_66 : zD cX6_lowestTerms 66 (.lload_n 2) 1 67 := ⟨by decide +kernel, rfl⟩
theorem dX6_lowestTerms_67 : zD cX6_lowestTerms 67 (.lload 5) 2 69 := ⟨by decide +kernel, rfl⟩
theorem dX6_lowestTerms_69 : zD cX6_lowestTerms 69 (.ldiv) 1 70 := ⟨by decide +kernel, rfl⟩
theorem dX6_lowestTerms_70 : zD cX6_lowestTerms 70 (.lreturn) 1 71 := ⟨by decide +kernel, rfl⟩
theorem dX6_see_0 : zD cX6_see 0 (.iload_n 1) 1 1 := ⟨by decide +kernel, rfl⟩
theorem dX6_see_1 : zD cX6_see 1 (.iconst 0) 1 2 := ⟨by decide +kernel, rfl⟩
theorem dX6_see_2 : zD cX6_see 2 (.bipush 20) 2 4 := ⟨by decide +kernel, rfl⟩
theorem dX6_see_4 : zD cX6_see 4 (.invokestatic 66) 3 7 := ⟨by decide +kernel, rfl⟩
theorem dX6_see_7 : zJ cX6_see 7 (fun o => .ifCond .eq o) 28 10 := ⟨21, by decide +kernel, by decide, rfl⟩
theorem dX6_see_10 : zD cX6_see 10 (.aload_n 0) 1 11 := ⟨by decide +kernel, rfl⟩
theorem dX6_see_11 : zD cX6_see 11 (.iload_n 2) 1 12 := ⟨by decide +kernel, rfl⟩
theorem dX6_see_12 : zD cX6_see 12 (.invokevirtual 113) 3 15 := ⟨by decide +kernel, rfl⟩
theorem dX6_see_15 : zJ cX6_see 15 (fun o => .ifCond .eq o) 28 18 := ⟨13, by decide +kernel, by decide, rfl⟩
theorem dX6_see_18 : zD cX6_see 18 (.iload_n 3) 1 19 := ⟨by decide +kernel, rfl⟩
theorem dX6_see_19 : zD cX6_see 19 (.iconst 0) 1 20 := ⟨by decide +kernel, rfl⟩
theorem dX6_see_20 : zD cX6_see 20 (.bipush 99) 2 22 := ⟨by decide +kernel, rfl⟩
theorem dX6_see_22 : zD cX6_see 22 (.invokestatic 66) 3 25 := ⟨by decide +kernel, rfl⟩
theorem dX6_see_25 : zJ cX6_see 25 (fun o => .ifCond .ne o) 30 28 := ⟨5, by decide +kernel, by decide, rfl⟩
theorem dX6_see_28 : zD cX6_see 28 (.iconst (-1)) 1 29 := ⟨by decide +kernel, rfl⟩
theorem dX6_see_29 : zD cX6_see 29 (.ireturn) 1 30 := ⟨by decide +kernel, rfl⟩
theorem dX6_see_30 : zD cX6_see 30 (.aload_n 0) 1 31 := ⟨by decide +kernel, rfl⟩
theorem dX6_see_31 : zD cX6_see 31 (.getfield 10) 3 34 := ⟨by decide +kernel, rfl⟩
theorem dX6_see_34 : zD cX6_see 34 (.iload_n 1) 1 35 := ⟨by decide +kernel, rfl⟩
theorem dX6_see_35 : zD cX6_see 35 (.iload_n 2) 1 36 := ⟨by decide +kernel, rfl⟩
theorem dX6_see_36 : zD cX6_see 36 (.iload_n 3) 1 37 := ⟨by decide +kernel, rfl⟩
theorem dX6_see_37 : zD cX6_see 37 (.invokevirtual 222) 3 40 := ⟨by decide +kernel, rfl⟩
theorem dX6_see_40 : zJ cX6_see 40 (fun o => .ifCond .eq o) 53 43 := ⟨13, by decide +kernel, by decide, rfl⟩
theorem dX6_see_43 : zD cX6_see 43 (.aload_n 0) 1 44 := ⟨by decide +kernel, rfl⟩
theorem dX6_see_44 : zD cX6_see 44 (.getfield 10) 3 47 := ⟨by decide +kernel, rfl⟩
theorem dX6_see_47 : zD cX6_see 47 (.getfield 225) 3 50 := ⟨by decide +kernel, rfl⟩
theorem dX6_see_50 : zG cX6_see 50 55 := ⟨5, by decide +kernel, by decide⟩
theorem dX6_see_53 : zD cX6_see 53 (.bipush (-3)) 2 55 := ⟨by decide +kernel, rfl⟩
theorem dX6_see_55 : zD cX6_see 55 (.ireturn) 1 56 := ⟨by decide +kernel, rfl⟩
theorem dX6_forget_0 : zD cX6_forget 0 (.iload_n 1) 1 1 := ⟨by decide +kernel, rfl⟩
theorem dX6_forget_1 : zD cX6_forget 1 (.iconst 0) 1 2 := ⟨by decide +kernel, rfl⟩
theorem dX6_forget_2 : zD cX6_forget 2 (.aload_n 0) 1 3 := ⟨by decide +kernel, rfl⟩
theorem dX6_forget_3 : zD cX6_forget 3 (.getfield 10) 3 6 := ⟨by decide +kernel, rfl⟩
theorem dX6_forget_6 : zD cX6_forget 6 (.getfield 225) 3 9 := ⟨by decide +kernel, rfl⟩
theorem dX6_forget_9 : zD cX6_forget 9 (.invokestatic 66) 3 12 := ⟨by decide +kernel, rfl⟩
theorem dX6_forget_12 : zJ cX6_forget 12 (fun o => .ifCond .ne o) 17 15 := ⟨5, by decide +kernel, by decide, rfl⟩
theorem dX6_forget_15 : zD cX6_forget 15 (.iconst (-1)) 1 16 := ⟨by decide +kernel, rfl⟩
theorem dX6_forget_16 : zD cX6_forget 16 (.ireturn) 1 17 := ⟨by decide +kernel, rfl⟩
theorem dX6_forget_17 : zD cX6_forget 17 (.aload_n 0) 1 18 := ⟨by decide +kernel, rfl⟩
theorem dX6_forget_18 : zD cX6_forget 18 (.getfield 10) 3 21 := ⟨by decide +kernel, rfl⟩
theorem dX6_forget_21 : zD cX6_forget 21 (.getfield 225) 3 24 := ⟨by decide +kernel, rfl⟩
theorem dX6_forget_24 : zD cX6_forget 24 (.istore_n 2) 1 25 := ⟨by decide +kernel, rfl⟩
theorem dX6_forget_25 : zD cX6_forget 25 (.aload_n 0) 1 26 := ⟨by decide +kernel, rfl⟩
theorem dX6_forget_26 : zD cX6_forget 26 (.getfield 10) 3 29 := ⟨by decide +kernel, rfl⟩
theorem dX6_forget_29 : zD cX6_forget 29 (.iload_n 1) 1 30 := ⟨by decide +kernel, rfl⟩
theorem dX6_forget_30 : zD cX6_forget 30 (.putfield 225) 3 33 := ⟨by decide +kernel, rfl⟩
theorem dX6_forget_33 : zD cX6_forget 33 (.iload_n 2) 1 34 := ⟨by decide +kernel, rfl⟩
theorem dX6_forget_34 : zD cX6_forget 34 (.ireturn) 1 35 := ⟨by decide +kernel, rfl⟩
theorem dX6_kinds_0 : zD cX6_kinds 0 (.aload_n 0) 1 1 := ⟨by decide +kernel, rfl⟩
theorem dX6_kinds_1 : zD cX6_kinds 1 (.iload_n 1) 1 2 := ⟨by decide +kernel, rfl⟩
theorem dX6_kinds_2 : zD cX6_kinds 2 (.invokevirtual 113) 3 5 := ⟨by decide +kernel, rfl⟩
theorem dX6_kinds_5 : zJ cX6_kinds 5 (fun o => .ifCond .ne o) 10 8 := ⟨5, by decide +kernel, by decide, rfl⟩
theorem dX6_kinds_8 : zD cX6_kinds 8 (.iconst (-1)) 1 9 := ⟨by decide +kernel, rfl⟩
theorem dX6_kinds_9 : zD cX6_kinds 9 (.ireturn) 1 10 := ⟨by decide +kernel, rfl⟩
theorem dX6_kinds_10 : zD cX6_kinds 10 (.iconst 0) 1 11 := ⟨by decide +kernel, rfl⟩
theorem dX6_kinds_11 : zD cX6_kinds 11 (.istore_n 2) 1 12 := ⟨by decide +kernel, rfl⟩
theorem dX6_kinds_12 : zD cX6_kinds 12 (.iconst 0) 1 13 := ⟨by decide +kernel, rfl⟩
theorem dX6_kinds_13 : zD cX6_kinds 13 (.istore_n 3) 1 14 := ⟨by decide +kernel, rfl⟩
theorem dX6_kinds_14 : zD cX6_kinds 14 (.iload_n 3) 1 15 := ⟨by decide +kernel, rfl⟩
theorem dX6_kinds_15 : zD cX6_kinds 15 (.iconst 4) 1 16 := ⟨by decide +kernel, rfl⟩
theorem dX6_kinds_16 : zJ cX6_kinds 16 (fun o => .if_icmp .ge o) 52 19 := ⟨36, by decide +kernel, by decide, rfl⟩
theorem dX6_kinds_19 : zD cX6_kinds 19 (.aload_n 0) 1 20 := ⟨by decide +kernel, rfl⟩
theorem dX6_kinds_20 : zD cX6_kinds 20 (.getfield 10) 3 23 := ⟨by decide +kernel, rfl⟩
theorem dX6_kinds_23 : zD cX6_kinds 23 (.iload_n 1) 1 24 := ⟨by decide +kernel, rfl⟩
theorem dX6_kinds_24 : zD cX6_kinds 24 (.iload_n 3) 1 25 := ⟨by decide +kernel, rfl⟩
theorem dX6_kinds_25 : zD cX6_kinds 25 (.aload_n 0) 1 26 := ⟨by decide +kernel, rfl⟩
theorem dX6_kinds_26 : zD cX6_kinds 26 (.getfield 10) 3 29 := ⟨by decide +kernel, rfl⟩
theorem dX6_kinds_29 : zD cX6_kinds 29 (.getfield 127) 3 32 := ⟨by decide +kernel, rfl⟩
theorem dX6_kinds_32 : zD cX6_kinds 32 (.iload_n 1) 1 33 := ⟨by decide +kernel, rfl⟩
theorem dX6_kinds_33 : zD cX6_kinds 33 (.iaload) 1 34 := ⟨by decide +kernel, rfl⟩
theorem dX6_kinds_34 : zD cX6_kinds 34 (.invokevirtual 228) 3 37 := ⟨by decide +kernel, rfl⟩
theorem dX6_kinds_37 : zJ cX6_kinds 37 (fun o => .ifCond .eq o) 46 40 := ⟨9, by decide +kernel, by decide, rfl⟩
theorem dX6_kinds_40 : zD cX6_kinds 40 (.iload_n 2) 1 41 := ⟨by decide +kernel, rfl⟩
theorem dX6_kinds_41 : zD cX6_kinds 41 (.iconst 1) 1 42 := ⟨by decide +kernel, rfl⟩
theorem dX6_kinds_42 : zD cX6_kinds 42 (.iload_n 3) 1 43 := ⟨by decide +kernel, rfl⟩
theorem dX6_kinds_43 : zD cX6_kinds 43 (.ishl) 1 44 := ⟨by decide +kernel, rfl⟩
theorem dX6_kinds_44 : zD cX6_kinds 44 (.ior) 1 45 := ⟨by decide +kernel, rfl⟩
theorem dX6_kinds_45 : zD cX6_kinds 45 (.istore_n 2) 1 46 := ⟨by decide +kernel, rfl⟩
theorem dX6_kinds_46 : zD cX6_kinds 46 (.iinc 3 1) 3 49 := ⟨by decide +kernel, rfl⟩
theorem dX6_kinds_49 : zG cX6_kinds 49 14 := ⟨(-35), by decide +kernel, by decide⟩
theorem dX6_kinds_52 : zD cX6_kinds 52 (.iload_n 2) 1 53 := ⟨by decide +kernel, rfl⟩
theorem dX6_kinds_53 : zD cX6_kinds 53 (.ireturn) 1 54 := ⟨by decide +kernel, rfl⟩
theorem dX6_blights_0 : zD cX6_blights 0 (.aload_n 0) 1 1 := ⟨by decide +kernel, rfl⟩
theorem dX6_blights_1 : zD cX6_blights 1 (.iload_n 1) 1 2 := ⟨by decide +kernel, rfl⟩
theorem dX6_blights_2 : zD cX6_blights 2 (.invokevirtual 113) 3 5 := ⟨by decide +kernel, rfl⟩
theorem dX6_blights_5 : zJ cX6_blights 5 (fun o => .ifCond .eq o) 16 8 := ⟨11, by decide +kernel, by decide, rfl⟩
theorem dX6_blights_8 : zD cX6_blights 8 (.aload_n 0) 1 9 := ⟨by decide +kernel, rfl⟩
theorem dX6_blights_9 : zD cX6_blights 9 (.iload_n 1) 1 10 := ⟨by decide +kernel, rfl⟩
theorem dX6_blights_10 : zD cX6_blights 10 (.invokevirtual 231) 3 13 := ⟨by decide +kernel, rfl⟩
theorem dX6_blights_13 : zG cX6_blights 13 17 := ⟨4, by decide +kernel, by decide⟩
theorem dX6_blights_16 : zD cX6_blights 16 (.iconst (-1)) 1 17 := ⟨by decide +kernel, rfl⟩
theorem dX6_blights_17 : zD cX6_blights 17 (.ireturn) 1 18 := ⟨by decide +kernel, rfl⟩
theorem dX6_blightsAsSeen_0 : zD cX6_blightsAsSeen 0 (.iconst 0) 1 1 := ⟨by decide +kernel, rfl⟩
theorem dX6_blightsAsSeen_1 : zD cX6_blightsAsSeen 1 (.istore_n 2) 1 2 := ⟨by decide +kernel, rfl⟩
theorem dX6_blightsAsSeen_2 : zD cX6_blightsAsSeen 2 (.iconst 0) 1 3 := ⟨by decide +kernel, rfl⟩
theorem dX6_blightsAsSeen_3 : zD cX6_blightsAsSeen 3 (.istore_n 3) 1 4 := ⟨by decide +kernel, rfl⟩
theorem dX6_blightsAsSeen_4 : zD cX6_blightsAsSeen 4 (.iload_n 3) 1 5 := ⟨by decide +kernel, rfl⟩
theorem dX6_blightsAsSeen_5 : zD cX6_blightsAsSeen 5 (.bipush 9) 2 7 := ⟨by decide +kernel, rfl⟩
theorem dX6_blightsAsSeen_7 : zJ cX6_blightsAsSeen 7 (fun o => .if_icmp .gt o) 43 10 := ⟨36, by decide +kernel, by decide, rfl⟩
theorem dX6_blightsAsSeen_10 : zD cX6_blightsAsSeen 10 (.aload_n 0) 1 11 := ⟨by decide +kernel, rfl⟩
theorem dX6_blightsAsSeen_11 : zD cX6_blightsAsSeen 11 (.getfield 10) 3 14 := ⟨by decide +kernel, rfl⟩
theorem dX6_blightsAsSeen_14 : zD cX6_blightsAsSeen 14 (.iload_n 1) 1 15 := ⟨by decide +kernel, rfl⟩
theorem dX6_blightsAsSeen_15 : zD cX6_blightsAsSeen 15 (.aload_n 0) 1 16 := ⟨by decide +kernel, rfl⟩
theorem dX6_blightsAsSeen_16 : zD cX6_blightsAsSeen 16 (.getfield 10) 3 19 := ⟨by decide +kernel, rfl⟩
theorem dX6_blightsAsSeen_19 : zD cX6_blightsAsSeen 19 (.getfield 120) 3 22 := ⟨by decide +kernel, rfl⟩
theorem dX6_blightsAsSeen_22 : zD cX6_blightsAsSeen 22 (.iload_n 1) 1 23 := ⟨by decide +kernel, rfl⟩
theorem dX6_blightsAsSeen_23 : zD cX6_blightsAsSeen 23 (.iaload) 1 24 := ⟨by decide +kernel, rfl⟩
theorem dX6_blightsAsSeen_24 : zD cX6_blightsAsSeen 24 (.iload_n 3) 1 25 := ⟨by decide +kernel, rfl⟩
theorem dX6_blightsAsSeen_25 : zD cX6_blightsAsSeen 25 (.invokevirtual 228) 3 28 := ⟨by decide +kernel, rfl⟩
theorem dX6_blightsAsSeen_28 : zJ cX6_blightsAsSeen 28 (fun o => .ifCond .eq o) 37 31 := ⟨9, by decide +kernel, by decide, rfl⟩
theorem dX6_blightsAsSeen_31 : zD cX6_blightsAsSeen 31 (.iload_n 2) 1 32 := ⟨by decide +kernel, rfl⟩
theorem dX6_blightsAsSeen_32 : zD cX6_blightsAsSeen 32 (.iconst 1) 1 33 := ⟨by decide +kernel, rfl⟩
theorem dX6_blightsAsSeen_33 : zD cX6_blightsAsSeen 33 (.iload_n 3) 1 34 := ⟨by decide +kernel, rfl⟩
theorem dX6_blightsAsSeen_34 : zD cX6_blightsAsSeen 34 (.ishl) 1 35 := ⟨by decide +kernel, rfl⟩
theorem dX6_blightsAsSeen_35 : zD cX6_blightsAsSeen 35 (.ior) 1 36 := ⟨by decide +kernel, rfl⟩
theorem dX6_blightsAsSeen_36 : zD cX6_blightsAsSeen 36 (.istore_n 2) 1 37 := ⟨by decide +kernel, rfl⟩
theorem dX6_blightsAsSeen_37 : zD cX6_blightsAsSeen 37 (.iinc 3 1) 3 40 := ⟨by decide +kernel, rfl⟩
theorem dX6_blightsAsSeen_40 : zG cX6_blightsAsSeen 40 4 := ⟨(-36), by decide +kernel, by decide⟩
theorem dX6_blightsAsSeen_43 : zD cX6_blightsAsSeen 43 (.iload_n 2) 1 44 := ⟨by decide +kernel, rfl⟩
theorem dX6_blightsAsSeen_44 : zD cX6_blightsAsSeen 44 (.ireturn) 1 45 := ⟨by decide +kernel, rfl⟩
theorem dX6_ask_0 : zD cX6_ask 0 (.aload_n 0) 1 1 := ⟨by decide +kernel, rfl⟩
theorem dX6_ask_1 : zD cX6_ask 1 (.iload_n 1) 1 2 := ⟨by decide +kernel, rfl⟩
theorem dX6_ask_2 : zD cX6_ask 2 (.invokevirtual 113) 3 5 := ⟨by decide +kernel, rfl⟩
theorem dX6_ask_5 : zJ cX6_ask 5 (fun o => .ifCond .eq o) 17 8 := ⟨12, by decide +kernel, by decide, rfl⟩
theorem dX6_ask_8 : zD cX6_ask 8 (.iload_n 2) 1 9 := ⟨by decide +kernel, rfl⟩
theorem dX6_ask_9 : zD cX6_ask 9 (.iconst 0) 1 10 := ⟨by decide +kernel, rfl⟩
theorem dX6_ask_10 : zD cX6_ask 10 (.iconst 1) 1 11 := ⟨by decide +kernel, rfl⟩
theorem dX6_ask_11 : zD cX6_ask 11 (.invokestatic 66) 3 14 := ⟨by decide +kernel, rfl⟩
theorem dX6_ask_14 : zJ cX6_ask 14 (fun o => .ifCond .ne o) 19 17 := ⟨5, by decide +kernel, by decide, rfl⟩
theorem dX6_ask_17 : zD cX6_ask 17 (.iconst (-1)) 1 18 := ⟨by decide +kernel, rfl⟩
theorem dX6_ask_18 : zD cX6_ask 18 (.ireturn) 1 19 := ⟨by decide +kernel, rfl⟩
theorem dX6_ask_19 : zD cX6_ask 19 (.aload_n 0) 1 20 := ⟨by decide +kernel, rfl⟩
theorem dX6_ask_20 : zD cX6_ask 20 (.getfield 51) 3 23 := ⟨by decide +kernel, rfl⟩
theorem dX6_ask_23 : zD cX6_ask 23 (.aload_n 0) 1 24 := ⟨by decide +kernel, rfl⟩
theorem dX6_ask_24 : zD cX6_ask 24 (.iload_n 1) 1 25 := ⟨by decide +kernel, rfl⟩
theorem dX6_ask_25 : zD cX6_ask 25 (.invokevirtual 231) 3 28 := ⟨by decide +kernel, rfl⟩
theorem dX6_ask_28 : zD cX6_ask 28 (.aload_n 0) 1 29 := ⟨by decide +kernel, rfl⟩
theorem dX6_ask_29 : zD cX6_ask 29 (.getfield 10) 3 32 := ⟨by decide +kernel, rfl⟩
theorem dX6_ask_32 : zD cX6_ask 32 (.getfield 124) 3 35 := ⟨by decide +kernel, rfl⟩
theorem dX6_ask_35 : zD cX6_ask 35 (.iload_n 1) 1 36 := ⟨by decide +kernel, rfl⟩
theorem dX6_ask_36 : zD cX6_ask 36 (.iaload) 1 37 := ⟨by decide +kernel, rfl⟩
theorem dX6_ask_37 : zD cX6_ask 37 (.invokevirtual 234) 3 40 := ⟨by decide +kernel, rfl⟩
theorem dX6_ask_40 : zD cX6_ask 40 (.aload_n 0) 1 41 := ⟨by decide +kernel, rfl⟩
theorem dX6_ask_41 : zD cX6_ask 41 (.getfield 10) 3 44 := ⟨by decide +kernel, rfl⟩
theorem dX6_ask_44 : zD cX6_ask 44 (.iload_n 1) 1 45 := ⟨by decide +kernel, rfl⟩
theorem dX6_ask_45 : zD cX6_ask 45 (.invokevirtual 116) 3 48 := ⟨by decide +kernel, rfl⟩
theorem dX6_ask_48 : zD cX6_ask 48 (.istore_n 3) 1 49 := ⟨by decide +kernel, rfl⟩
theorem dX6_ask_49 : zD cX6_ask 49 (.aload_n 0) 1 50 := ⟨by decide +kernel, rfl⟩
theorem dX6_ask_50 : zD cX6_ask 50 (.getfield 51) 3 53 := ⟨by decide +kernel, rfl⟩
theorem dX6_ask_53 : zD cX6_ask 53 (.getfield 238) 3 56 := ⟨by decide +kernel, rfl⟩
theorem dX6_ask_56 : zD cX6_ask 56 (.istore 4) 2 58 := ⟨by decide +kernel, rfl⟩
theorem dX6_ask_58 : zD cX6_ask 58 (.bipush (-4)) 2 60 := ⟨by decide +kernel, rfl⟩
theorem dX6_ask_60 : zD cX6_ask 60 (.istore 5) 2 62 := ⟨by decide +kernel, rfl⟩
theorem dX6_ask_62 : zD cX6_ask 62 (.iconst 0) 1 63 := ⟨by decide +kernel, rfl⟩
theorem dX6_ask_63 : zD cX6_ask 63 (.istore 6) 2 65 := ⟨by decide +kernel, rfl⟩
theorem dX6_ask_65 : zD cX6_ask 65 (.iload 6) 2 67 := ⟨by decide +kernel, rfl⟩
theorem dX6_ask_67 : zD cX6_ask 67 (.bipush 20) 2 69 := ⟨by decide +kernel, rfl⟩
theorem dX6_ask_69 : zJ cX6_ask 69 (fun o => .if_icmp .gt o) 119 72 := ⟨50, by decide +kernel, by decide, rfl⟩
theorem dX6_ask_72 : zD cX6_ask 72 (.aload_n 0) 1 73 := ⟨by decide +kernel, rfl⟩
theorem dX6_ask_73 : zD cX6_ask 73 (.getfield 51) 3 76 := ⟨by decide +kernel, rfl⟩
theorem dX6_ask_76 : zD cX6_ask 76 (.invokevirtual 241) 3 79 := ⟨by decide +kernel, rfl⟩
theorem dX6_ask_79 : zD cX6_ask 79 (.istore 7) 2 81 := ⟨by decide +kernel, rfl⟩
theorem dX6_ask_81 : zD cX6_ask 81 (.iload 7) 2 83 := ⟨by decide +kernel, rfl⟩
theorem dX6_ask_83 : zD cX6_ask 83 (.iload 4) 2 85 := ⟨by decide +kernel, rfl⟩
theorem dX6_ask_85 : zJ cX6_ask 85 (fun o => .if_icmp .ge o) 96 88 := ⟨11, by decide +kernel, by decide, rfl⟩
theorem dX6_ask_88 : zD cX6_ask 88 (.iload 7) 2 90 := ⟨by decide +kernel, rfl⟩
theorem dX6_ask_90 : zD cX6_ask 90 (.istore 4) 2 92 := ⟨by decide +kernel, rfl⟩
theorem dX6_ask_92 : zD cX6_ask 92 (.iload 6) 2 94 := ⟨by decide +kernel, rfl⟩
theorem dX6_ask_94 : zD cX6_ask 94 (.istore 5) 2 96 := ⟨by decide +kernel, rfl⟩
theorem dX6_ask_96 : zD cX6_ask 96 (.aload_n 0) 1 97 := ⟨by decide +kernel, rfl⟩
theorem dX6_ask_97 : zD cX6_ask 97 (.getfield 51) 3 100 := ⟨by decide +kernel, rfl⟩
theorem dX6_ask_100 : zD cX6_ask 100 (.aload_n 0) 1 101 := ⟨by decide +kernel, rfl⟩
theorem dX6_ask_101 : zD cX6_ask 101 (.getfield 10) 3 104 := ⟨by decide +kernel, rfl⟩
theorem dX6_ask_104 : zD cX6_ask 104 (.getfield 120) 3 107 := ⟨by decide +kernel, rfl⟩
theorem dX6_ask_107 : zD cX6_ask 107 (.iload_n 1) 1 108 := ⟨by decide +kernel, rfl⟩
theorem dX6_ask_108 : zD cX6_ask 108 (.iaload) 1 109 := ⟨by decide +kernel, rfl⟩
theorem dX6_ask_109 : zD cX6_ask 109 (.iload_n 3) 1 110 := ⟨by decide +kernel, rfl⟩
theorem dX6_ask_110 : zD cX6_ask 110 (.invokevirtual 244) 3 113 := ⟨by decide +kernel, rfl⟩
theorem dX6_ask_113 : zD cX6_ask 113 (.iinc 6 1) 3 116 := ⟨by decide +kernel, rfl⟩
theorem dX6_ask_116 : zG cX6_ask 116 65 := ⟨(-51), by decide +kernel, by decide⟩
theorem dX6_ask_119 : zD cX6_ask 119 (.iload 5) 2 121 := ⟨by decide +kernel, rfl⟩
theorem dX6_ask_121 : zD cX6_ask 121 (.bipush (-4)) 2 123 := ⟨by decide +kernel, rfl⟩
theorem dX6_ask_123 : zJ cX6_ask 123 (fun o => .if_icmp .eq o) 130 126 := ⟨7, by decide +kernel, by decide, rfl⟩
theorem dX6_ask_126 : zD cX6_ask 126 (.iload_n 2) 1 127 := ⟨by decide +kernel, rfl⟩
theorem dX6_ask_127 : zJ cX6_ask 127 (fun o => .ifCond .ne o) 135 130 := ⟨8, by decide +kernel, by decide, rfl⟩
theorem dX6_ask_130 : zD cX6_ask 130 (.iload 5) 2 132 := ⟨by decide +kernel, rfl⟩
theorem dX6_ask_132 : zG cX6_ask 132 137 := ⟨5, by decide +kernel, by decide⟩
theorem dX6_ask_135 : zD cX6_ask 135 (.iload 4) 2 137 := ⟨by decide +kernel, rfl⟩
theorem dX6_ask_137 : zD cX6_ask 137 (.ireturn) 1 138 := ⟨by decide +kernel, rfl⟩
theorem dX6_drift_0 : zD cX6_drift 0 (.iload_n 2) 1 1 := ⟨by decide +kernel, rfl⟩
theorem dX6_drift_1 : zD cX6_drift 1 (.iconst 1) 1 2 := ⟨by decide +kernel, rfl⟩
theorem dX6_drift_2 : zD cX6_drift 2 (.bipush 60) 2 4 := ⟨by decide +kernel, rfl⟩
theorem dX6_drift_4 : zD cX6_drift 4 (.invokestatic 66) 3 7 := ⟨by decide +kernel, rfl⟩
theorem dX6_drift_7 : zJ cX6_drift 7 (fun o => .ifCond .eq o) 19 10 := ⟨12, by decide +kernel, by decide, rfl⟩
theorem dX6_drift_10 : zD cX6_drift 10 (.iload_n 3) 1 11 := ⟨by decide +kernel, rfl⟩
theorem dX6_drift_11 : zD cX6_drift 11 (.iconst 0) 1 12 := ⟨by decide +kernel, rfl⟩
theorem dX6_drift_12 : zD cX6_drift 12 (.iconst 1) 1 13 := ⟨by decide +kernel, rfl⟩
theorem dX6_drift_13 : zD cX6_drift 13 (.invokestatic 66) 3 16 := ⟨by decide +kernel, rfl⟩
theorem dX6_drift_16 : zJ cX6_drift 16 (fun o => .ifCond .ne o) 21 19 := ⟨5, by decide +kernel, by decide, rfl⟩
theorem dX6_drift_19 : zD cX6_drift 19 (.iconst (-1)) 1 20 := ⟨by decide +kernel, rfl⟩
theorem dX6_drift_20 : zD cX6_drift 20 (.ireturn) 1 21 := ⟨by decide +kernel, rfl⟩
theorem dX6_drift_21 : zD cX6_drift 21 (.aload_n 0) 1 22 := ⟨by decide +kernel, rfl⟩
theorem dX6_drift_22 : zD cX6_drift 22 (.getfield 10) 3 25 := ⟨by decide +kernel, rfl⟩
theorem dX6_drift_25 : zD cX6_drift 25 (.getfield 94) 3 28 := ⟨by decide +kernel, rfl⟩
theorem dX6_drift_28 : zJ cX6_drift 28 (fun o => .ifCond .eq o) 41 31 := ⟨13, by decide +kernel, by decide, rfl⟩
theorem dX6_drift_31 : zD cX6_drift 31 (.aload_n 0) 1 32 := ⟨by decide +kernel, rfl⟩
theorem dX6_drift_32 : zD cX6_drift 32 (.getfield 10) 3 35 := ⟨by decide +kernel, rfl⟩
theorem dX6_drift_35 : zD cX6_drift 35 (.getfield 91) 3 38 := ⟨by decide +kernel, rfl⟩
theorem dX6_drift_38 : zJ cX6_drift 38 (fun o => .ifCond .ne o) 44 41 := ⟨6, by decide +kernel, by decide, rfl⟩
theorem dX6_drift_41 : zD cX6_drift 41 (.bipush (-2)) 2 43 := ⟨by decide +kernel, rfl⟩
theorem dX6_drift_43 : zD cX6_drift 43 (.ireturn) 1 44 := ⟨by decide +kernel, rfl⟩
theorem dX6_drift_44 : zD cX6_drift 44 (.aload_n 0) 1 45 := ⟨by decide +kernel, rfl⟩
theorem dX6_drift_45 : zD cX6_drift 45 (.getfield 16) 3 48 := ⟨by decide +kernel, rfl⟩
theorem dX6_drift_48 : zD cX6_drift 48 (.aload_n 0) 1 49 := ⟨by decide +kernel, rfl⟩
theorem dX6_drift_49 : zD cX6_drift 49 (.getfield 10) 3 52 := ⟨by decide +kernel, rfl⟩
theorem dX6_drift_52 : zD cX6_drift 52 (.invokevirtual 84) 3 55 := ⟨by decide +kernel, rfl⟩
theorem dX6_drift_55 : zD cX6_drift 55 (.iload_n 1) 1 56 := ⟨by decide +kernel, rfl⟩
theorem dX6_drift_56 : zD cX6_drift 56 (.istore 4) 2 58 := ⟨by decide +kernel, rfl⟩
theorem dX6_drift_58 : zD cX6_drift 58 (.iconst 0) 1 59 := ⟨by decide +kernel, rfl⟩
theorem dX6_drift_59 : zD cX6_drift 59 (.istore 5) 2 61 := ⟨by decide +kernel, rfl⟩
theorem dX6_drift_61 : zD cX6_drift 61 (.iload 5) 2 63 := ⟨by decide +kernel, rfl⟩
theorem dX6_drift_63 : zD cX6_drift 63 (.iload_n 2) 1 64 := ⟨by decide +kernel, rfl⟩
theorem dX6_drift_64 : zJ cX6_drift 64 (fun o => .if_icmp .ge o) 134 67 := ⟨70, by decide +kernel, by decide, rfl⟩
theorem dX6_drift_67 : zD cX6_drift 67 (.iload 4) 2 69 := ⟨by decide +kernel, rfl⟩
theorem dX6_drift_69 : zD cX6_drift 69 (.ldc 247) 2 71 := ⟨by decide +kernel, rfl⟩
theorem dX6_drift_71 : zD cX6_drift 71 (.imul) 1 72 := ⟨by decide +kernel, rfl⟩
theorem dX6_drift_72 : zD cX6_drift 72 (.sipush 12345) 3 75 := ⟨by decide +kernel, rfl⟩
theorem dX6_drift_75 : zD cX6_drift 75 (.iadd) 1 76 := ⟨by decide +kernel, rfl⟩
theorem dX6_drift_76 : zD cX6_drift 76 (.istore 4) 2 78 := ⟨by decide +kernel, rfl⟩
theorem dX6_drift_78 : zD cX6_drift 78 (.iload 4) 2 80 := ⟨by decide +kernel, rfl⟩
theorem dX6_drift_80 : zD cX6_drift 80 (.bipush 16) 2 82 := ⟨by decide +kernel, rfl⟩
theorem dX6_drift_82 : zD cX6_drift 82 (.iushr) 1 83 := ⟨by decide +kernel, rfl⟩
theorem dX6_drift_83 : zD cX6_drift 83 (.sipush 32767) 3 86 := ⟨by decide +kernel, rfl⟩
theorem dX6_drift_86 : zD cX6_drift 86 (.iand) 1 87 := ⟨by decide +kernel, rfl⟩
theorem dX6_drift_87 : zD cX6_drift 87 (.istore 6) 2 89 := ⟨by decide +kernel, rfl⟩
theorem dX6_drift_89 : zD cX6_drift 89 (.aload_n 0) 1 90 := ⟨by decide +kernel, rfl⟩
theorem dX6_drift_90 : zD cX6_drift 90 (.getfield 16) 3 93 := ⟨by decide +kernel, rfl⟩
theorem dX6_drift_93 : zD cX6_drift 93 (.getfield 140) 3 96 := ⟨by decide +kernel, rfl⟩
theorem dX6_drift_96 : zD cX6_drift 96 (.iload 6) 2 98 := ⟨by decide +kernel, rfl⟩
theorem dX6_drift_98 : zD cX6_drift 98 (.aload_n 0) 1 99 := ⟨by decide +kernel, rfl⟩
theorem dX6_drift_99 : zD cX6_drift 99 (.getfield 10) 3 102 := ⟨by decide +kernel, rfl⟩
theorem dX6_drift_102 : zD cX6_drift 102 (.getfield 94) 3 105 := ⟨by decide +kernel, rfl⟩
theorem dX6_drift_105 : zD cX6_drift 105 (.irem) 1 106 := ⟨by decide +kernel, rfl⟩
theorem dX6_drift_106 : zD cX6_drift 106 (.iload 6) 2 108 := ⟨by decide +kernel, rfl⟩
theorem dX6_drift_108 : zD cX6_drift 108 (.bipush 8) 2 110 := ⟨by decide +kernel, rfl⟩
theorem dX6_drift_110 : zD cX6_drift 110 (.idiv) 1 111 := ⟨by decide +kernel, rfl⟩
theorem dX6_drift_111 : zD cX6_drift 111 (.aload_n 0) 1 112 := ⟨by decide +kernel, rfl⟩
theorem dX6_drift_112 : zD cX6_drift 112 (.getfield 10) 3 115 := ⟨by decide +kernel, rfl⟩
theorem dX6_drift_115 : zD cX6_drift 115 (.getfield 91) 3 118 := ⟨by decide +kernel, rfl⟩
theorem dX6_drift_118 : zD cX6_drift 118 (.irem) 1 119 := ⟨by decide +kernel, rfl⟩
theorem dX6_drift_119 : zD cX6_drift 119 (.iastore) 1 120 := ⟨by decide +kernel, rfl⟩
theorem dX6_drift_120 : zD cX6_drift 120 (.aload_n 0) 1 121 := ⟨by decide +kernel, rfl⟩
theorem dX6_drift_121 : zD cX6_drift 121 (.getfield 16) 3 124 := ⟨by decide +kernel, rfl⟩
theorem dX6_drift_124 : zD cX6_drift 124 (.invokevirtual 248) 3 127 := ⟨by decide +kernel, rfl⟩
theorem dX6_drift_127 : zD cX6_drift 127 (.pop) 1 128 := ⟨by decide +kernel, rfl⟩
theorem dX6_drift_128 : zD cX6_drift 128 (.iinc 5 1) 3 131 := ⟨by decide +kernel, rfl⟩
theorem dX6_drift_131 : zG cX6_drift 131 61 := ⟨(-70), by decide +kernel, by decide⟩
theorem dX6_drift_134 : zD cX6_drift 134 (.iload_n 3) 1 135 := ⟨by decide +kernel, rfl⟩
theorem dX6_drift_135 : zJ cX6_drift 135 (fun o => .ifCond .ne o) 148 138 := ⟨13, by decide +kernel, by decide, rfl⟩
theorem dX6_drift_138 : zD cX6_drift 138 (.aload_n 0) 1 139 := ⟨by decide +kernel, rfl⟩
theorem dX6_drift_139 : zD cX6_drift 139 (.getfield 16) 3 142 := ⟨by decide +kernel, rfl⟩
theorem dX6_drift_142 : zD cX6_drift 142 (.invokevirtual 103) 3 145 := ⟨by decide +kernel, rfl⟩
theorem dX6_drift_145 : zG cX6_drift 145 155 := ⟨10, by decide +kernel, by decide⟩
theorem dX6_drift_148 : zD cX6_drift 148 (.aload_n 0) 1 149 := ⟨by decide +kernel, rfl⟩
theorem dX6_drift_149 : zD cX6_drift 149 (.getfield 16) 3 152 := ⟨by decide +kernel, rfl⟩
theorem dX6_drift_152 : zD cX6_drift 152 (.getfield 100) 3 155 := ⟨by decide +kernel, rfl⟩
theorem dX6_drift_155 : zD cX6_drift 155 (.ireturn) 1 156 := ⟨by decide +kernel, rfl⟩
theorem dX6_keep_0 : zD cX6_keep 0 (.iload_n 1) 1 1 := ⟨by decide +kernel, rfl⟩
theorem dX6_keep_1 : zD cX6_keep 1 (.iconst 0) 1 2 := ⟨by decide +kernel, rfl⟩
theorem dX6_keep_2 : zD cX6_keep 2 (.iconst 1) 1 3 := ⟨by decide +kernel, rfl⟩
theorem dX6_keep_3 : zD cX6_keep 3 (.invokestatic 66) 3 6 := ⟨by decide +kernel, rfl⟩
theorem dX6_keep_6 : zJ cX6_keep 6 (fun o => .ifCond .ne o) 11 9 := ⟨5, by decide +kernel, by decide, rfl⟩
theorem dX6_keep_9 : zD cX6_keep 9 (.iconst (-1)) 1 10 := ⟨by decide +kernel, rfl⟩
theorem dX6_keep_10 : zD cX6_keep 10 (.ireturn) 1 11 := ⟨by decide +kernel, rfl⟩
theorem dX6_keep_11 : zD cX6_keep 11 (.aload_n 0) 1 12 := ⟨by decide +kernel, rfl⟩
theorem dX6_keep_12 : zD cX6_keep 12 (.getfield 23) 3 15 := ⟨by decide +kernel, rfl⟩
theorem dX6_keep_15 : zD cX6_keep 15 (.iload_n 1) 1 16 := ⟨by decide +kernel, rfl⟩
theorem dX6_keep_16 : zD cX6_keep 16 (.baload) 1 17 := ⟨by decide +kernel, rfl⟩
theorem dX6_keep_17 : zJ cX6_keep 17 (fun o => .ifCond .eq o) 24 20 := ⟨7, by decide +kernel, by decide, rfl⟩
theorem dX6_keep_20 : zD cX6_keep 20 (.iconst 1) 1 21 := ⟨by decide +kernel, rfl⟩
theorem dX6_keep_21 : zG cX6_keep 21 25 := ⟨4, by decide +kernel, by decide⟩
theorem dX6_keep_24 : zD cX6_keep 24 (.iconst 0) 1 25 := ⟨by decide +kernel, rfl⟩
theorem dX6_keep_25 : zD cX6_keep 25 (.istore_n 2) 1 26 := ⟨by decide +kernel, rfl⟩
theorem dX6_keep_26 : zD cX6_keep 26 (.aload_n 0) 1 27 := ⟨by decide +kernel, rfl⟩
theorem dX6_keep_27 : zD cX6_keep 27 (.getfield 19) 3 30 := ⟨by decide +kernel, rfl⟩
theorem dX6_keep_30 : zD cX6_keep 30 (.iload_n 1) 1 31 := ⟨by decide +kernel, rfl⟩
theorem dX6_keep_31 : zD cX6_keep 31 (.aaload) 1 32 := ⟨by decide +kernel, rfl⟩
theorem dX6_keep_32 : zD cX6_keep 32 (.aload_n 0) 1 33 := ⟨by decide +kernel, rfl⟩
theorem dX6_keep_33 : zD cX6_keep 33 (.getfield 10) 3 36 := ⟨by decide +kernel, rfl⟩
theorem dX6_keep_36 : zD cX6_keep 36 (.invokevirtual 84) 3 39 := ⟨by decide +kernel, rfl⟩
theorem dX6_keep_39 : zD cX6_keep 39 (.aload_n 0) 1 40 := ⟨by decide +kernel, rfl⟩
theorem dX6_keep_40 : zD cX6_keep 40 (.getfield 23) 3 43 := ⟨by decide +kernel, rfl⟩
theorem dX6_keep_43 : zD cX6_keep 43 (.iload_n 1) 1 44 := ⟨by decide +kernel, rfl⟩
theorem dX6_keep_44 : zD cX6_keep 44 (.iconst 1) 1 45 := ⟨by decide +kernel, rfl⟩
theorem dX6_keep_45 : zD cX6_keep 45 (.bastore) 1 46 := ⟨by decide +kernel, rfl⟩
theorem dX6_keep_46 : zD cX6_keep 46 (.iload_n 2) 1 47 := ⟨by decide +kernel, rfl⟩
theorem dX6_keep_47 : zD cX6_keep 47 (.ireturn) 1 48 := ⟨by decide +kernel, rfl⟩
theorem dX6_back_0 : zD cX6_back 0 (.iload_n 1) 1 1 := ⟨by decide +kernel, rfl⟩
theorem dX6_back_1 : zD cX6_back 1 (.iconst 0) 1 2 := ⟨by decide +kernel, rfl⟩
theorem dX6_back_2 : zD cX6_back 2 (.iconst 1) 1 3 := ⟨by decide +kernel, rfl⟩
theorem dX6_back_3 : zD cX6_back 3 (.invokestatic 66) 3 6 := ⟨by decide +kernel, rfl⟩
theorem dX6_back_6 : zJ cX6_back 6 (fun o => .ifCond .ne o) 11 9 := ⟨5, by decide +kernel, by decide, rfl⟩
theorem dX6_back_9 : zD cX6_back 9 (.iconst (-1)) 1 10 := ⟨by decide +kernel, rfl⟩
theorem dX6_back_10 : zD cX6_back 10 (.ireturn) 1 11 := ⟨by decide +kernel, rfl⟩
theorem dX6_back_11 : zD cX6_back 11 (.aload_n 0) 1 12 := ⟨by decide +kernel, rfl⟩
theorem dX6_back_12 : zD cX6_back 12 (.getfield 23) 3 15 := ⟨by decide +kernel, rfl⟩
theorem dX6_back_15 : zD cX6_back 15 (.iload_n 1) 1 16 := ⟨by decide +kernel, rfl⟩
theorem dX6_back_16 : zD cX6_back 16 (.baload) 1 17 := ⟨by decide +kernel, rfl⟩
theorem dX6_back_17 : zJ cX6_back 17 (fun o => .ifCond .ne o) 23 20 := ⟨6, by decide +kernel, by decide, rfl⟩
theorem dX6_back_20 : zD cX6_back 20 (.bipush (-2)) 2 22 := ⟨by decide +kernel, rfl⟩
theorem dX6_back_22 : zD cX6_back 22 (.ireturn) 1 23 := ⟨by decide +kernel, rfl⟩
theorem dX6_back_23 : zD cX6_back 23 (.aload_n 0) 1 24 := ⟨by decide +kernel, rfl⟩
theorem dX6_back_24 : zD cX6_back 24 (.getfield 10) 3 27 := ⟨by decide +kernel, rfl⟩
theorem dX6_back_27 : zD cX6_back 27 (.aload_n 0) 1 28 := ⟨by decide +kernel, rfl⟩
theorem dX6_back_28 : zD cX6_back 28 (.getfield 19) 3 31 := ⟨by decide +kernel, rfl⟩
theorem dX6_back_31 : zD cX6_back 31 (.iload_n 1) 1 32 := ⟨by decide +kernel, rfl⟩
theorem dX6_back_32 : zD cX6_back 32 (.aaload) 1 33 := ⟨by decide +kernel, rfl⟩
theorem dX6_back_33 : zD cX6_back 33 (.invokevirtual 84) 3 36 := ⟨by decide +kernel, rfl⟩
theorem dX6_back_36 : zD cX6_back 36 (.aload_n 0) 1 37 := ⟨by decide +kernel, rfl⟩
theorem dX6_back_37 : zD cX6_back 37 (.getfield 10) 3 40 := ⟨by decide +kernel, rfl⟩
theorem dX6_back_40 : zD cX6_back 40 (.getfield 97) 3 43 := ⟨by decide +kernel, rfl⟩
theorem dX6_back_43 : zD cX6_back 43 (.ireturn) 1 44 := ⟨by decide +kernel, rfl⟩
theorem dX6_sheet_0 : zD cX6_sheet 0 (.iload_n 1) 1 1 := ⟨by decide +kernel, rfl⟩
theorem dX6_sheet_1 : zD cX6_sheet 1 (.iconst 0) 1 2 := ⟨by decide +kernel, rfl⟩
theorem dX6_sheet_2 : zD cX6_sheet 2 (.iconst 3) 1 3 := ⟨by decide +kernel, rfl⟩
theorem dX6_sheet_3 : zD cX6_sheet 3 (.invokestatic 66) 3 6 := ⟨by decide +kernel, rfl⟩
theorem dX6_sheet_6 : zJ cX6_sheet 6 (fun o => .ifCond .eq o) 24 9 := ⟨18, by decide +kernel, by decide, rfl⟩
theorem dX6_sheet_9 : zD cX6_sheet 9 (.iload_n 2) 1 10 := ⟨by decide +kernel, rfl⟩
theorem dX6_sheet_10 : zD cX6_sheet 10 (.iconst 0) 1 11 := ⟨by decide +kernel, rfl⟩
theorem dX6_sheet_11 : zD cX6_sheet 11 (.iconst 2) 1 12 := ⟨by decide +kernel, rfl⟩
theorem dX6_sheet_12 : zD cX6_sheet 12 (.invokestatic 66) 3 15 := ⟨by decide +kernel, rfl⟩
theorem dX6_sheet_15 : zJ cX6_sheet 15 (fun o => .ifCond .eq o) 24 18 := ⟨9, by decide +kernel, by decide, rfl⟩
theorem dX6_sheet_18 : zD cX6_sheet 18 (.iload_n 3) 1 19 := ⟨by decide +kernel, rfl⟩
theorem dX6_sheet_19 : zD cX6_sheet 19 (.bipush 40) 2 21 := ⟨by decide +kernel, rfl⟩
theorem dX6_sheet_21 : zJ cX6_sheet 21 (fun o => .if_icmp .le o) 26 24 := ⟨5, by decide +kernel, by decide, rfl⟩
theorem dX6_sheet_24 : zD cX6_sheet 24 (.iconst (-1)) 1 25 := ⟨by decide +kernel, rfl⟩
theorem dX6_sheet_25 : zD cX6_sheet 25 (.ireturn) 1 26 := ⟨by decide +kernel, rfl⟩
theorem dX6_sheet_26 : zD cX6_sheet 26 (.iload_n 3) 1 27 := ⟨by decide +kernel, rfl⟩
theorem dX6_sheet_27 : zJ cX6_sheet 27 (fun o => .ifCond .ge o) 33 30 := ⟨6, by decide +kernel, by decide, rfl⟩
theorem dX6_sheet_30 : zD cX6_sheet 30 (.bipush (-14)) 2 32 := ⟨by decide +kernel, rfl⟩
theorem dX6_sheet_32 : zD cX6_sheet 32 (.ireturn) 1 33 := ⟨by decide +kernel, rfl⟩
theorem dX6_sheet_33 : zD cX6_sheet 33 (.aload_n 0) 1 34 := ⟨by decide +kernel, rfl⟩
theorem dX6_sheet_34 : zD cX6_sheet 34 (.getfield 58) 3 37 := ⟨by decide +kernel, rfl⟩
theorem dX6_sheet_37 : zD cX6_sheet 37 (.iload_n 1) 1 38 := ⟨by decide +kernel, rfl⟩
theorem dX6_sheet_38 : zD cX6_sheet 38 (.iload_n 2) 1 39 := ⟨by decide +kernel, rfl⟩
theorem dX6_sheet_39 : zD cX6_sheet 39 (.iload_n 3) 1 40 := ⟨by decide +kernel, rfl⟩
theorem dX6_sheet_40 : zD cX6_sheet 40 (.invokevirtual 250) 3 43 := ⟨by decide +kernel, rfl⟩
theorem dX6_sheet_43 : zD cX6_sheet 43 (.iconst 1) 1 44 := ⟨by decide +kernel, rfl⟩
theorem dX6_sheet_44 : zD cX6_sheet 44 (.ireturn) 1 45 := ⟨by decide +kernel, rfl⟩
theorem dX6_lay_0 : zD cX6_lay 0 (.iload_n 1) 1 1 := ⟨by decide +kernel, rfl⟩
theorem dX6_lay_1 : zD cX6_lay 1 (.iconst 0) 1 2 := ⟨by decide +kernel, rfl⟩
theorem dX6_lay_2 : zD cX6_lay 2 (.iconst 3) 1 3 := ⟨by decide +kernel, rfl⟩
theorem dX6_lay_3 : zD cX6_lay 3 (.invokestatic 66) 3 6 := ⟨by decide +kernel, rfl⟩
theorem dX6_lay_6 : zJ cX6_lay 6 (fun o => .ifCond .ne o) 11 9 := ⟨5, by decide +kernel, by decide, rfl⟩
theorem dX6_lay_9 : zD cX6_lay 9 (.iconst (-1)) 1 10 := ⟨by decide +kernel, rfl⟩
theorem dX6_lay_10 : zD cX6_lay 10 (.ireturn) 1 11 := ⟨by decide +kernel, rfl⟩
theorem dX6_lay_11 : zD cX6_lay 11 (.aload_n 0) 1 12 := ⟨by decide +kernel, rfl⟩
theorem dX6_lay_12 : zD cX6_lay 12 (.getfield 58) 3 15 := ⟨by decide +kernel, rfl⟩
theorem dX6_lay_15 : zD cX6_lay 15 (.iload_n 1) 1 16 := ⟨by decide +kernel, rfl⟩
theorem dX6_lay_16 : zD cX6_lay 16 (.aload_n 0) 1 17 := ⟨by decide +kernel, rfl⟩
theorem dX6_lay_17 : zD cX6_lay 17 (.getfield 58) 3 20 := ⟨by decide +kernel, rfl⟩
theorem dX6_lay_20 : zD cX6_lay 20 (.getfield 254) 3 23 := ⟨by decide +kernel, rfl⟩
theorem dX6_lay_23 : zD cX6_lay 23 (.iload_n 1) 1 24 := ⟨by decide +kernel, rfl⟩
theorem dX6_lay_24 : zD cX6_lay 24 (.iaload) 1 25 := ⟨by decide +kernel, rfl⟩
theorem dX6_lay_25 : zD cX6_lay 25 (.iload_n 2) 1 26 := ⟨by decide +kernel, rfl⟩
theorem dX6_lay_26 : zD cX6_lay 26 (.invokevirtual 257) 3 29 := ⟨by decide +kernel, rfl⟩
theorem dX6_lay_29 : zD cX6_lay 29 (.istore 4) 2 31 := ⟨by decide +kernel, rfl⟩
theorem dX6_lay_31 : zD cX6_lay 31 (.iload 4) 2 33 := ⟨by decide +kernel, rfl⟩
theorem dX6_lay_33 : zJ cX6_lay 33 (fun o => .ifCond .eq o) 42 36 := ⟨9, by decide +kernel, by decide, rfl⟩
theorem dX6_lay_36 : zD cX6_lay 36 (.bipush (-10)) 2 38 := ⟨by decide +kernel, rfl⟩
theorem dX6_lay_38 : zD cX6_lay 38 (.iload 4) 2 40 := ⟨by decide +kernel, rfl⟩
theorem dX6_lay_40 : zD cX6_lay 40 (.isub) 1 41 := ⟨by decide +kernel, rfl⟩
theorem dX6_lay_41 : zD cX6_lay 41 (.ireturn) 1 42 := ⟨by decide +kernel, rfl⟩
theorem dX6_lay_42 : zD cX6_lay 42 (.aload_n 0) 1 43 := ⟨by decide +kernel, rfl⟩
theorem dX6_lay_43 : zD cX6_lay 43 (.getfield 58) 3 46 := ⟨by decide +kernel, rfl⟩
theorem dX6_lay_46 : zD cX6_lay 46 (.iload_n 1) 1 47 := ⟨by decide +kernel, rfl⟩
theorem dX6_lay_47 : zD cX6_lay 47 (.iload_n 2) 1 48 := ⟨by decide +kernel, rfl⟩
theorem dX6_lay_48 : zD cX6_lay 48 (.iload_n 3) 1 49 := ⟨by decide +kernel, rfl⟩
theorem dX6_lay_49 : zD cX6_lay 49 (.invokevirtual 260) 3 52 := ⟨by decide +kernel, rfl⟩
theorem dX6_lay_52 : zD cX6_lay 52 (.iconst 1) 1 53 := ⟨by decide +kernel, rfl⟩
theorem dX6_lay_53 : zD cX6_lay 53 (.ireturn) 1 54 := ⟨by decide +kernel, rfl⟩
theorem dX6_read_0 : zD cX6_read 0 (.iload_n 1) 1 1 := ⟨by decide +kernel, rfl⟩
theorem dX6_read_1 : zD cX6_read 1 (.iconst 0) 1 2 := ⟨by decide +kernel, rfl⟩
theorem dX6_read_2 : zD cX6_read 2 (.iconst 3) 1 3 := ⟨by decide +kernel, rfl⟩
theorem dX6_read_3 : zD cX6_read 3 (.invokestatic 66) 3 6 := ⟨by decide +kernel, rfl⟩
theorem dX6_read_6 : zJ cX6_read 6 (fun o => .ifCond .eq o) 29 9 := ⟨23, by decide +kernel, by decide, rfl⟩
theorem dX6_read_9 : zD cX6_read 9 (.iload_n 2) 1 10 := ⟨by decide +kernel, rfl⟩
theorem dX6_read_10 : zD cX6_read 10 (.iconst 0) 1 11 := ⟨by decide +kernel, rfl⟩
theorem dX6_read_11 : zD cX6_read 11 (.iconst 2) 1 12 := ⟨by decide +kernel, rfl⟩
theorem dX6_read_12 : zD cX6_read 12 (.invokestatic 66) 3 15 := ⟨by decide +kernel, rfl⟩
theorem dX6_read_15 : zJ cX6_read 15 (fun o => .ifCond .eq o) 29 18 := ⟨14, by decide +kernel, by decide, rfl⟩
theorem dX6_read_18 : zD cX6_read 18 (.iload 4) 2 20 := ⟨by decide +kernel, rfl⟩
theorem dX6_read_20 : zD cX6_read 20 (.iconst 0) 1 21 := ⟨by decide +kernel, rfl⟩
theorem dX6_read_21 : zD cX6_read 21 (.bipush 20) 2 23 := ⟨by decide +kernel, rfl⟩
theorem dX6_read_23 : zD cX6_read 23 (.invokestatic 66) 3 26 := ⟨by decide +kernel, rfl⟩
theorem dX6_read_26 : zJ cX6_read 26 (fun o => .ifCond .ne o) 31 29 := ⟨5, by decide +kernel, by decide, rfl⟩
theorem dX6_read_29 : zD cX6_read 29 (.iconst (-1)) 1 30 := ⟨by decide +kernel, rfl⟩
theorem dX6_read_30 : zD cX6_read 30 (.ireturn) 1 31 := ⟨by decide +kernel, rfl⟩
theorem dX6_read_31 : zD cX6_read 31 (.iconst 0) 1 32 := ⟨by decide +kernel, rfl⟩
theorem dX6_read_32 : zD cX6_read 32 (.istore 5) 2 34 := ⟨by decide +kernel, rfl⟩
theorem dX6_read_34 : zD cX6_read 34 (.iconst 0) 1 35 := ⟨by decide +kernel, rfl⟩
theorem dX6_read_35 : zD cX6_read 35 (.istore 6) 2 37 := ⟨by decide +kernel, rfl⟩
theorem dX6_read_37 : zD cX6_read 37 (.iconst 0) 1 38 := ⟨by decide +kernel, rfl⟩
theorem dX6_read_38 : zD cX6_read 38 (.istore 7) 2 40 := ⟨by decide +kernel, rfl⟩
theorem dX6_read_40 : zD cX6_read 40 (.iload 7) 2 42 := ⟨by decide +kernel, rfl⟩
theorem dX6_read_42 : zD cX6_read 42 (.iload 4) 2 44 := ⟨by decide +kernel, rfl⟩
theorem dX6_read_44 : zJ cX6_read 44 (fun o => .if_icmp .ge o) 133 47 := ⟨89, by decide +kernel, by decide, rfl⟩
theorem dX6_read_47 : zD cX6_read 47 (.iload 6) 2 49 := ⟨by decide +kernel, rfl⟩
theorem dX6_read_49 : zJ cX6_read 49 (fun o => .ifCond .ne o) 133 52 := ⟨84, by decide +kernel, by decide, rfl⟩
theorem dX6_read_52 : zD cX6_read 52 (.aload_n 0) 1 53 := ⟨by decide +kernel, rfl⟩
theorem dX6_read_53 : zD cX6_read 53 (.getfield 58) 3 56 := ⟨by decide +kernel, rfl⟩
theorem dX6_read_56 : zD cX6_read 56 (.iload_n 1) 1 57 := ⟨by decide +kernel, rfl⟩
theorem dX6_read_57 : zD cX6_read 57 (.iload_n 2) 1 58 := ⟨by decide +kernel, rfl⟩
theorem dX6_read_58 : zD cX6_read 58 (.iload_n 3) 1 59 := ⟨by decide +kernel, rfl⟩
theorem dX6_read_59 : zD cX6_read 59 (.iconst 2) 1 60 := ⟨by decide +kernel, rfl⟩
theorem dX6_read_60 : zD cX6_read 60 (.iload 7) 2 62 := ⟨by decide +kernel, rfl⟩
theorem dX6_read_62 : zD cX6_read 62 (.imul) 1 63 := ⟨by decide +kernel, rfl⟩
theorem dX6_read_63 : zD cX6_read 63 (.iadd) 1 64 := ⟨by decide +kernel, rfl⟩
theorem dX6_read_64 : zD cX6_read 64 (.invokevirtual 263) 3 67 := ⟨by decide +kernel, rfl⟩
theorem dX6_read_67 : zD cX6_read 67 (.istore 6) 2 69 := ⟨by decide +kernel, rfl⟩
theorem dX6_read_69 : zD cX6_read 69 (.iload 6) 2 71 := ⟨by decide +kernel, rfl⟩
theorem dX6_read_71 : zJ cX6_read 71 (fun o => .ifCond .ne o) 127 74 := ⟨56, by decide +kernel, by decide, rfl⟩
theorem dX6_read_74 : zD cX6_read 74 (.aload_n 0) 1 75 := ⟨by decide +kernel, rfl⟩
theorem dX6_read_75 : zD cX6_read 75 (.aload_n 0) 1 76 := ⟨by decide +kernel, rfl⟩
theorem dX6_read_76 : zD cX6_read 76 (.getfield 58) 3 79 := ⟨by decide +kernel, rfl⟩
theorem dX6_read_79 : zD cX6_read 79 (.iload_n 1) 1 80 := ⟨by decide +kernel, rfl⟩
theorem dX6_read_80 : zD cX6_read 80 (.iload_n 3) 1 81 := ⟨by decide +kernel, rfl⟩
theorem dX6_read_81 : zD cX6_read 81 (.iconst 2) 1 82 := ⟨by decide +kernel, rfl⟩
theorem dX6_read_82 : zD cX6_read 82 (.iload 7) 2 84 := ⟨by decide +kernel, rfl⟩
theorem dX6_read_84 : zD cX6_read 84 (.imul) 1 85 := ⟨by decide +kernel, rfl⟩
theorem dX6_read_85 : zD cX6_read 85 (.iadd) 1 86 := ⟨by decide +kernel, rfl⟩
theorem dX6_read_86 : zD cX6_read 86 (.invokevirtual 266) 3 89 := ⟨by decide +kernel, rfl⟩
theorem dX6_read_89 : zD cX6_read 89 (.invokevirtual 137) 3 92 := ⟨by decide +kernel, rfl⟩
theorem dX6_read_92 : zJ cX6_read 92 (fun o => .ifCond .eq o) 118 95 := ⟨26, by decide +kernel, by decide, rfl⟩
theorem dX6_read_95 : zD cX6_read 95 (.aload_n 0) 1 96 := ⟨by decide +kernel, rfl⟩
theorem dX6_read_96 : zD cX6_read 96 (.aload_n 0) 1 97 := ⟨by decide +kernel, rfl⟩
theorem dX6_read_97 : zD cX6_read 97 (.getfield 58) 3 100 := ⟨by decide +kernel, rfl⟩
theorem dX6_read_100 : zD cX6_read 100 (.iload_n 1) 1 101 := ⟨by decide +kernel, rfl⟩
theorem dX6_read_101 : zD cX6_read 101 (.iload_n 3) 1 102 := ⟨by decide +kernel, rfl⟩
theorem dX6_read_102 : zD cX6_read 102 (.iconst 2) 1 103 := ⟨by decide +kernel, rfl⟩
theorem dX6_read_103 : zD cX6_read 103 (.iload 7) 2 105 := ⟨by decide +kernel, rfl⟩
theorem dX6_read_105 : zD cX6_read 105 (.imul) 1 106 := ⟨by decide +kernel, rfl⟩
theorem dX6_read_106 : zD cX6_read 106 (.iadd) 1 107 := ⟨by decide +kernel, rfl⟩
theorem dX6_read_107 : zD cX6_read 107 (.iconst 1) 1 108 := ⟨by decide +kernel, rfl⟩
theorem dX6_read_108 : zD cX6_read 108 (.iadd) 1 109 := ⟨by decide +kernel, rfl⟩
theorem dX6_read_109 : zD cX6_read 109 (.invokevirtual 266) 3 112 := ⟨by decide +kernel, rfl⟩
theorem dX6_read_112 : zD cX6_read 112 (.invokevirtual 113) 3 115 := ⟨by decide +kernel, rfl⟩
theorem dX6_read_115 : zJ cX6_read 115 (fun o => .ifCond .ne o) 124 118 := ⟨9, by decide +kernel, by decide, rfl⟩
theorem dX6_read_118 : zD cX6_read 118 (.bipush (-20)) 2 120 := ⟨by decide +kernel, rfl⟩
theorem dX6_read_120 : zD cX6_read 120 (.iload 7) 2 122 := ⟨by decide +kernel, rfl⟩
theorem dX6_read_122 : zD cX6_read 122 (.isub) 1 123 := ⟨by decide +kernel, rfl⟩
theorem dX6_read_123 : zD cX6_read 123 (.ireturn) 1 124 := ⟨by decide +kernel, rfl⟩
theorem dX6_read_124 : zD cX6_read 124 (.iinc 5 1) 3 127 := ⟨by decide +kernel, rfl⟩
theorem dX6_read_127 : zD cX6_read 127 (.iinc 7 1) 3 130 := ⟨by decide +kernel, rfl⟩
theorem dX6_read_130 : zG cX6_read 130 40 := ⟨(-90), by decide +kernel, by decide⟩
theorem dX6_read_133 : zD cX6_read 133 (.iconst 0) 1 134 := ⟨by decide +kernel, rfl⟩
theorem dX6_read_134 : zD cX6_read 134 (.istore 7) 2 136 := ⟨by decide +kernel, rfl⟩
theorem dX6_read_136 : zD cX6_read 136 (.iload 7) 2 138 := ⟨by decide +kernel, rfl⟩
theorem dX6_read_138 : zD cX6_read 138 (.iload 5) 2 140 := ⟨by decide +kernel, rfl⟩
theorem dX6_read_140 : zJ cX6_read 140 (fun o => .if_icmp .ge o) 184 143 := ⟨44, by decide +kernel, by decide, rfl⟩
theorem dX6_read_143 : zD cX6_read 143 (.aload_n 0) 1 144 := ⟨by decide +kernel, rfl⟩
theorem dX6_read_144 : zD cX6_read 144 (.aload_n 0) 1 145 := ⟨by decide +kernel, rfl⟩
theorem dX6_read_145 : zD cX6_read 145 (.getfield 58) 3 148 := ⟨by decide +kernel, rfl⟩
theorem dX6_read_148 : zD cX6_read 148 (.iload_n 1) 1 149 := ⟨by decide +kernel, rfl⟩
theorem dX6_read_149 : zD cX6_read 149 (.iload_n 3) 1 150 := ⟨by decide +kernel, rfl⟩
theorem dX6_read_150 : zD cX6_read 150 (.iconst 2) 1 151 := ⟨by decide +kernel, rfl⟩
theorem dX6_read_151 : zD cX6_read 151 (.iload 7) 2 153 := ⟨by decide +kernel, rfl⟩
theorem dX6_read_153 : zD cX6_read 153 (.imul) 1 154 := ⟨by decide +kernel, rfl⟩
theorem dX6_read_154 : zD cX6_read 154 (.iadd) 1 155 := ⟨by decide +kernel, rfl⟩
theorem dX6_read_155 : zD cX6_read 155 (.invokevirtual 266) 3 158 := ⟨by decide +kernel, rfl⟩
theorem dX6_read_158 : zD cX6_read 158 (.aload_n 0) 1 159 := ⟨by decide +kernel, rfl⟩
theorem dX6_read_159 : zD cX6_read 159 (.getfield 58) 3 162 := ⟨by decide +kernel, rfl⟩
theorem dX6_read_162 : zD cX6_read 162 (.iload_n 1) 1 163 := ⟨by decide +kernel, rfl⟩
theorem dX6_read_163 : zD cX6_read 163 (.iload_n 3) 1 164 := ⟨by decide +kernel, rfl⟩
theorem dX6_read_164 : zD cX6_read 164 (.iconst 2) 1 165 := ⟨by decide +kernel, rfl⟩
theorem dX6_read_165 : zD cX6_read 165 (.iload 7) 2 167 := ⟨by decide +kernel, rfl⟩
theorem dX6_read_167 : zD cX6_read 167 (.imul) 1 168 := ⟨by decide +kernel, rfl⟩
theorem dX6_read_168 : zD cX6_read 168 (.iadd) 1 169 := ⟨by decide +kernel, rfl⟩
theorem dX6_read_169 : zD cX6_read 169 (.iconst 1) 1 170 := ⟨by decide +kernel, rfl⟩
theorem dX6_read_170 : zD cX6_read 170 (.iadd) 1 171 := ⟨by decide +kernel, rfl⟩
theorem dX6_read_171 : zD cX6_read 171 (.invokevirtual 266) 3 174 := ⟨by decide +kernel, rfl⟩
theorem dX6_read_174 : zD cX6_read 174 (.invokevirtual 269) 3 177 := ⟨by decide +kernel, rfl⟩
theorem dX6_read_177 : zD cX6_read 177 (.pop) 1 178 := ⟨by decide +kernel, rfl⟩
theorem dX6_read_178 : zD cX6_read 178 (.iinc 7 1) 3 181 := ⟨by decide +kernel, rfl⟩
theorem dX6_read_181 : zG cX6_read 181 136 := ⟨(-45), by decide +kernel, by decide⟩
theorem dX6_read_184 : zD cX6_read 184 (.aload_n 0) 1 185 := ⟨by decide +kernel, rfl⟩
theorem dX6_read_185 : zD cX6_read 185 (.iload 6) 2 187 := ⟨by decide +kernel, rfl⟩
theorem dX6_read_187 : zD cX6_read 187 (.putfield 62) 3 190 := ⟨by decide +kernel, rfl⟩
theorem dX6_read_190 : zD cX6_read 190 (.iload 5) 2 192 := ⟨by decide +kernel, rfl⟩
theorem dX6_read_192 : zD cX6_read 192 (.ireturn) 1 193 := ⟨by decide +kernel, rfl⟩
theorem dX6_torn_0 : zD cX6_torn 0 (.aload_n 0) 1 1 := ⟨by decide +kernel, rfl⟩
theorem dX6_torn_1 : zD cX6_torn 1 (.getfield 62) 3 4 := ⟨by decide +kernel, rfl⟩
theorem dX6_torn_4 : zD cX6_torn 4 (.ireturn) 1 5 := ⟨by decide +kernel, rfl⟩
theorem dX6_count_0 : zD cX6_count 0 (.iload_n 1) 1 1 := ⟨by decide +kernel, rfl⟩
theorem dX6_count_1 : zD cX6_count 1 (.tableswitch 128 0 5 #[39, 47, 77, 85, 112, 120]) 39 40 := ⟨by decide +kernel, rfl⟩
theorem dX6_count_40 : zD cX6_count 40 (.aload_n 0) 1 41 := ⟨by decide +kernel, rfl⟩
theorem dX6_count_41 : zD cX6_count 41 (.getfield 10) 3 44 := ⟨by decide +kernel, rfl⟩
theorem dX6_count_44 : zD cX6_count 44 (.getfield 225) 3 47 := ⟨by decide +kernel, rfl⟩
theorem dX6_count_47 : zD cX6_count 47 (.ireturn) 1 48 := ⟨by decide +kernel, rfl⟩
theorem dX6_count_48 : zD cX6_count 48 (.aload_n 0) 1 49 := ⟨by decide +kernel, rfl⟩
theorem dX6_count_49 : zD cX6_count 49 (.getfield 23) 3 52 := ⟨by decide +kernel, rfl⟩
theorem dX6_count_52 : zD cX6_count 52 (.iconst 0) 1 53 := ⟨by decide +kernel, rfl⟩
theorem dX6_count_53 : zD cX6_count 53 (.baload) 1 54 := ⟨by decide +kernel, rfl⟩
theorem dX6_count_54 : zJ cX6_count 54 (fun o => .ifCond .eq o) 61 57 := ⟨7, by decide +kernel, by decide, rfl⟩
theorem dX6_count_57 : zD cX6_count 57 (.iconst 1) 1 58 := ⟨by decide +kernel, rfl⟩
theorem dX6_count_58 : zG cX6_count 58 62 := ⟨4, by decide +kernel, by decide⟩
theorem dX6_count_61 : zD cX6_count 61 (.iconst 0) 1 62 := ⟨by decide +kernel, rfl⟩
theorem dX6_count_62 : zD cX6_count 62 (.aload_n 0) 1 63 := ⟨by decide +kernel, rfl⟩
theorem dX6_count_63 : zD cX6_count 63 (.getfield 23) 3 66 := ⟨by decide +kernel, rfl⟩
theorem dX6_count_66 : zD cX6_count 66 (.iconst 1) 1 67 := ⟨by decide +kernel, rfl⟩
theorem dX6_count_67 : zD cX6_count 67 (.baload) 1 68 := ⟨by decide +kernel, rfl⟩
theorem dX6_count_68 : zJ cX6_count 68 (fun o => .ifCond .eq o) 75 71 := ⟨7, by decide +kernel, by decide, rfl⟩
theorem dX6_count_71 : zD cX6_count 71 (.iconst 1) 1 72 := ⟨by decide +kernel, rfl⟩
theorem dX6_count_72 : zG cX6_count 72 76 := ⟨4, by decide +kernel, by decide⟩
theorem dX6_count_75 : zD cX6_count 75 (.iconst 0) 1 76 := ⟨by decide +kernel, rfl⟩
theorem dX6_count_76 : zD cX6_count 76 (.iadd) 1 77 := ⟨by decide +kernel, rfl⟩
theorem dX6_count_77 : zD cX6_count 77 (.ireturn) 1 78 := ⟨by decide +kernel, rfl⟩
theorem dX6_count_78 : zD cX6_count 78 (.aload_n 0) 1 79 := ⟨by decide +kernel, rfl⟩
theorem dX6_count_79 : zD cX6_count 79 (.getfield 30) 3 82 := ⟨by decide +kernel, rfl⟩
theorem dX6_count_82 : zD cX6_count 82 (.getfield 74) 3 85 := ⟨by decide +kernel, rfl⟩
theorem dX6_count_85 : zD cX6_count 85 (.ireturn) 1 86 := ⟨by decide +kernel, rfl⟩
theorem dX6_count_86 : zD cX6_count 86 (.aload_n 0) 1 87 := ⟨by decide +kernel, rfl⟩
theorem dX6_count_87 : zD cX6_count 87 (.getfield 58) 3 90 := ⟨by decide +kernel, rfl⟩
theorem dX6_count_90 : zD cX6_count 90 (.getfield 272) 3 93 := ⟨by decide +kernel, rfl⟩
theorem dX6_count_93 : zD cX6_count 93 (.iconst 0) 1 94 := ⟨by decide +kernel, rfl⟩
theorem dX6_count_94 : zD cX6_count 94 (.iaload) 1 95 := ⟨by decide +kernel, rfl⟩
theorem dX6_count_95 : zJ cX6_count 95 (fun o => .ifCond .ge o) 103 98 := ⟨8, by decide +kernel, by decide, rfl⟩
theorem dX6_count_98 : zD cX6_count 98 (.bipush (-4)) 2 100 := ⟨by decide +kernel, rfl⟩
theorem dX6_count_100 : zG cX6_count 100 112 := ⟨12, by decide +kernel, by decide⟩
theorem dX6_count_103 : zD cX6_count 103 (.aload_n 0) 1 104 := ⟨by decide +kernel, rfl⟩
theorem dX6_count_104 : zD cX6_count 104 (.getfield 58) 3 107 := ⟨by decide +kernel, rfl⟩
theorem dX6_count_107 : zD cX6_count 107 (.getfield 272) 3 110 := ⟨by decide +kernel, rfl⟩
theorem dX6_count_110 : zD cX6_count 110 (.iconst 0) 1 111 := ⟨by decide +kernel, rfl⟩
theorem dX6_count_111 : zD cX6_count 111 (.iaload) 1 112 := ⟨by decide +kernel, rfl⟩
theorem dX6_count_112 : zD cX6_count 112 (.ireturn) 1 113 := ⟨by decide +kernel, rfl⟩
theorem dX6_count_113 : zD cX6_count 113 (.aload_n 0) 1 114 := ⟨by decide +kernel, rfl⟩
theorem dX6_count_114 : zD cX6_count 114 (.getfield 10) 3 117 := ⟨by decide +kernel, rfl⟩
theorem dX6_count_117 : zD cX6_count 117 (.invokevirtual 157) 3 120 := ⟨by decide +kernel, rfl⟩
theorem dX6_count_120 : zD cX6_count 120 (.ireturn) 1 121 := ⟨by decide +kernel, rfl⟩
theorem dX6_count_121 : zD cX6_count 121 (.aload_n 0) 1 122 := ⟨by decide +kernel, rfl⟩
theorem dX6_count_122 : zD cX6_count 122 (.getfield 10) 3 125 := ⟨by decide +kernel, rfl⟩
theorem dX6_count_125 : zD cX6_count 125 (.invokevirtual 274) 3 128 := ⟨by decide +kernel, rfl⟩
theorem dX6_count_128 : zD cX6_count 128 (.ireturn) 1 129 := ⟨by decide +kernel, rfl⟩
theorem dX6_count_129 : zD cX6_count 129 (.iconst (-1)) 1 130 := ⟨by decide +kernel, rfl⟩
theorem dX6_count_130 : zD cX6_count 130 (.ireturn) 1 131 := ⟨by decide +kernel, rfl⟩
theorem dX6_within_0 : zD cX6_within 0 (.iload_n 0) 1 1 := ⟨by decide +kernel, rfl⟩
theorem dX6_within_1 : zD cX6_within 1 (.iload_n 1) 1 2 := ⟨by decide +kernel, rfl⟩
theorem dX6_within_2 : zJ cX6_within 2 (fun o => .if_icmp .lt o) 14 5 := ⟨12, by decide +kernel, by decide, rfl⟩
theorem dX6_within_5 : zD cX6_within 5 (.iload_n 0) 1 6 := ⟨by decide +kernel, rfl⟩
theorem dX6_within_6 : zD cX6_within 6 (.iload_n 2) 1 7 := ⟨by decide +kernel, rfl⟩
theorem dX6_within_7 : zJ cX6_within 7 (fun o => .if_icmp .gt o) 14 10 := ⟨7, by decide +kernel, by decide, rfl⟩
theorem dX6_within_10 : zD cX6_within 10 (.iconst 1) 1 11 := ⟨by decide +kernel, rfl⟩
theorem dX6_within_11 : zG cX6_within 11 15 := ⟨4, by decide +kernel, by decide⟩
theorem dX6_within_14 : zD cX6_within 14 (.iconst 0) 1 15 := ⟨by decide +kernel, rfl⟩
theorem dX6_within_15 : zD cX6_within 15 (.ireturn) 1 16 := ⟨by decide +kernel, rfl⟩
theorem dX6_isField_0 : zD cX6_isField 0 (.iload_n 1) 1 1 := ⟨by decide +kernel, rfl⟩
theorem dX6_isField_1 : zD cX6_isField 1 (.iconst 0) 1 2 := ⟨by decide +kernel, rfl⟩
theorem dX6_isField_2 : zD cX6_isField 2 (.aload_n 0) 1 3 := ⟨by decide +kernel, rfl⟩
theorem dX6_isField_3 : zD cX6_isField 3 (.getfield 10) 3 6 := ⟨by decide +kernel, rfl⟩
theorem dX6_isField_6 : zD cX6_isField 6 (.getfield 91) 3 9 := ⟨by decide +kernel, rfl⟩
theorem dX6_isField_9 : zD cX6_isField 9 (.iconst 1) 1 10 := ⟨by decide +kernel, rfl⟩
theorem dX6_isField_10 : zD cX6_isField 10 (.isub) 1 11 := ⟨by decide +kernel, rfl⟩
theorem dX6_isField_11 : zD cX6_isField 11 (.invokestatic 66) 3 14 := ⟨by decide +kernel, rfl⟩
theorem dX6_isField_14 : zD cX6_isField 14 (.ireturn) 1 15 := ⟨by decide +kernel, rfl⟩
theorem dX6_isBand_0 : zD cX6_isBand 0 (.iload_n 1) 1 1 := ⟨by decide +kernel, rfl⟩
theorem dX6_isBand_1 : zD cX6_isBand 1 (.iconst 0) 1 2 := ⟨by decide +kernel, rfl⟩
theorem dX6_isBand_2 : zD cX6_isBand 2 (.aload_n 0) 1 3 := ⟨by decide +kernel, rfl⟩
theorem dX6_isBand_3 : zD cX6_isBand 3 (.getfield 10) 3 6 := ⟨by decide +kernel, rfl⟩
theorem dX6_isBand_6 : zD cX6_isBand 6 (.getfield 94) 3 9 := ⟨by decide +kernel, rfl⟩
theorem dX6_isBand_9 : zD cX6_isBand 9 (.iconst 1) 1 10 := ⟨by decide +kernel, rfl⟩
theorem dX6_isBand_10 : zD cX6_isBand 10 (.isub) 1 11 := ⟨by decide +kernel, rfl⟩
theorem dX6_isBand_11 : zD cX6_isBand 11 (.invokestatic 66) 3 14 := ⟨by decide +kernel, rfl⟩
theorem dX6_isBand_14 : zD cX6_isBand 14 (.ireturn) 1 15 := ⟨by decide +kernel, rfl⟩
theorem dX6_growth_0 : zD cX6_growth 0 (.iload_n 0) 1 1 := ⟨by decide +kernel, rfl⟩
theorem dX6_growth_1 : zD cX6_growth 1 (.tableswitch 53 1 3 #[27, 31, 43]) 27 28 := ⟨by decide +kernel, rfl⟩
theorem dX6_growth_28 : zD cX6_growth 28 (.iconst 2) 1 29 := ⟨by decide +kernel, rfl⟩
theorem dX6_growth_29 : zD cX6_growth 29 (.iload_n 1) 1 30 := ⟨by decide +kernel, rfl⟩
theorem dX6_growth_30 : zD cX6_growth 30 (.imul) 1 31 := ⟨by decide +kernel, rfl⟩
theorem dX6_growth_31 : zD cX6_growth 31 (.ireturn) 1 32 := ⟨by decide +kernel, rfl⟩
theorem dX6_growth_32 : zD cX6_growth 32 (.iload_n 1) 1 33 := ⟨by decide +kernel, rfl⟩
theorem dX6_growth_33 : zJ cX6_growth 33 (fun o => .ifCond .le o) 42 36 := ⟨9, by decide +kernel, by decide, rfl⟩
theorem dX6_growth_36 : zD cX6_growth 36 (.iload_n 1) 1 37 := ⟨by decide +kernel, rfl⟩
theorem dX6_growth_37 : zD cX6_growth 37 (.iconst 2) 1 38 := ⟨by decide +kernel, rfl⟩
theorem dX6_growth_38 : zD cX6_growth 38 (.idiv) 1 39 := ⟨by decide +kernel, rfl⟩
theorem dX6_growth_39 : zG cX6_growth 39 43 := ⟨4, by decide +kernel, by decide⟩
theorem dX6_growth_42 : zD cX6_growth 42 (.iload_n 1) 1 43 := ⟨by decide +kernel, rfl⟩
theorem dX6_growth_43 : zD cX6_growth 43 (.ireturn) 1 44 := ⟨by decide +kernel, rfl⟩
theorem dX6_growth_44 : zD cX6_growth 44 (.iload_n 1) 1 45 := ⟨by decide +kernel, rfl⟩
theorem dX6_growth_45 : zJ cX6_growth 45 (fun o => .ifCond .le o) 52 48 := ⟨7, by decide +kernel, by decide, rfl⟩
theorem dX6_growth_48 : zD cX6_growth 48 (.iconst 0) 1 49 := ⟨by decide +kernel, rfl⟩
theorem dX6_growth_49 : zG cX6_growth 49 53 := ⟨4, by decide +kernel, by decide⟩
theorem dX6_growth_52 : zD cX6_growth 52 (.iload_n 1) 1 53 := ⟨by decide +kernel, rfl⟩
theorem dX6_growth_53 : zD cX6_growth 53 (.ireturn) 1 54 := ⟨by decide +kernel, rfl⟩
theorem dX6_growth_54 : zD cX6_growth 54 (.iload_n 1) 1 55 := ⟨by decide +kernel, rfl⟩
theorem dX6_growth_55 : zD cX6_growth 55 (.ireturn) 1 56 := ⟨by decide +kernel, rfl⟩
theorem dX6_heed_0 : zD cX6_heed 0 (.iload_n 0) 1 1 := ⟨by decide +kernel, rfl⟩
theorem dX6_heed_1 : zD cX6_heed 1 (.lookupswitch 31 #[(1, 27), (3, 29)]) 27 28 := ⟨by decide +kernel, rfl⟩
theorem dX6_heed_28 : zD cX6_heed 28 (.iconst 2) 1 29 := ⟨by decide +kernel, rfl⟩
theorem dX6_heed_29 : zD cX6_heed 29 (.ireturn) 1 30 := ⟨by decide +kernel, rfl⟩
theorem dX6_heed_30 : zD cX6_heed 30 (.iconst 0) 1 31 := ⟨by decide +kernel, rfl⟩
theorem dX6_heed_31 : zD cX6_heed 31 (.ireturn) 1 32 := ⟨by decide +kernel, rfl⟩
theorem dX6_heed_32 : zD cX6_heed 32 (.iconst 1) 1 33 := ⟨by decide +kernel, rfl⟩
theorem dX6_heed_33 : zD cX6_heed 33 (.ireturn) 1 34 := ⟨by decide +kernel, rfl⟩
theorem dX6_earsNext_0 : zD cX6_earsNext 0 (.iconst 0) 1 1 := ⟨by decide +kernel, rfl⟩
theorem dX6_earsNext_1 : zD cX6_earsNext 1 (.bipush 99) 2 3 := ⟨by decide +kernel, rfl⟩
theorem dX6_earsNext_3 : zD cX6_earsNext 3 (.iload_n 1) 1 4 := ⟨by decide +kernel, rfl⟩
theorem dX6_earsNext_4 : zD cX6_earsNext 4 (.iload_n 0) 1 5 := ⟨by decide +kernel, rfl⟩
theorem dX6_earsNext_5 : zD cX6_earsNext 5 (.iload_n 3) 1 6 := ⟨by decide +kernel, rfl⟩
theorem dX6_earsNext_6 : zD cX6_earsNext 6 (.iload_n 2) 1 7 := ⟨by decide +kernel, rfl⟩
theorem dX6_earsNext_7 : zD cX6_earsNext 7 (.isub) 1 8 := ⟨by decide +kernel, rfl⟩
theorem dX6_earsNext_8 : zD cX6_earsNext 8 (.invokestatic 130) 3 11 := ⟨by decide +kernel, rfl⟩
theorem dX6_earsNext_11 : zD cX6_earsNext 11 (.iadd) 1 12 := ⟨by decide +kernel, rfl⟩
theorem dX6_earsNext_12 : zD cX6_earsNext 12 (.invokestatic 277) 3 15 := ⟨by decide +kernel, rfl⟩
theorem dX6_earsNext_15 : zD cX6_earsNext 15 (.invokestatic 282) 3 18 := ⟨by decide +kernel, rfl⟩
theorem dX6_earsNext_18 : zD cX6_earsNext 18 (.ireturn) 1 19 := ⟨by decide +kernel, rfl⟩
theorem dX6_blightNext_0 : zD cX6_blightNext 0 (.iload_n 2) 1 1 := ⟨by decide +kernel, rfl⟩
theorem dX6_blightNext_1 : zJ cX6_blightNext 1 (fun o => .ifCond .le o) 17 4 := ⟨16, by decide +kernel, by decide, rfl⟩
theorem dX6_blightNext_4 : zD cX6_blightNext 4 (.iconst 0) 1 5 := ⟨by decide +kernel, rfl⟩
theorem dX6_blightNext_5 : zD cX6_blightNext 5 (.iload_n 1) 1 6 := ⟨by decide +kernel, rfl⟩
theorem dX6_blightNext_6 : zD cX6_blightNext 6 (.iload_n 0) 1 7 := ⟨by decide +kernel, rfl⟩
theorem dX6_blightNext_7 : zD cX6_blightNext 7 (.invokestatic 134) 3 10 := ⟨by decide +kernel, rfl⟩
theorem dX6_blightNext_10 : zD cX6_blightNext 10 (.isub) 1 11 := ⟨by decide +kernel, rfl⟩
theorem dX6_blightNext_11 : zD cX6_blightNext 11 (.invokestatic 282) 3 14 := ⟨by decide +kernel, rfl⟩
theorem dX6_blightNext_14 : zG cX6_blightNext 14 25 := ⟨11, by decide +kernel, by decide⟩
theorem dX6_blightNext_17 : zD cX6_blightNext 17 (.bipush 9) 2 19 := ⟨by decide +kernel, rfl⟩
theorem dX6_blightNext_19 : zD cX6_blightNext 19 (.iload_n 1) 1 20 := ⟨by decide +kernel, rfl⟩
theorem dX6_blightNext_20 : zD cX6_blightNext 20 (.iconst 1) 1 21 := ⟨by decide +kernel, rfl⟩
theorem dX6_blightNext_21 : zD cX6_blightNext 21 (.iadd) 1 22 := ⟨by decide +kernel, rfl⟩
theorem dX6_blightNext_22 : zD cX6_blightNext 22 (.invokestatic 277) 3 25 := ⟨by decide +kernel, rfl⟩
theorem dX6_blightNext_25 : zD cX6_blightNext 25 (.ireturn) 1 26 := ⟨by decide +kernel, rfl⟩
theorem dX6_earsBehind_0 : zD cX6_earsBehind 0 (.iload_n 1) 1 1 := ⟨by decide +kernel, rfl⟩
theorem dX6_earsBehind_1 : zD cX6_earsBehind 1 (.istore 5) 2 3 := ⟨by decide +kernel, rfl⟩
theorem dX6_earsBehind_3 : zD cX6_earsBehind 3 (.iload_n 2) 1 4 := ⟨by decide +kernel, rfl⟩
theorem dX6_earsBehind_4 : zD cX6_earsBehind 4 (.istore 6) 2 6 := ⟨by decide +kernel, rfl⟩
theorem dX6_earsBehind_6 : zD cX6_earsBehind 6 (.iconst 0) 1 7 := ⟨by decide +kernel, rfl⟩
theorem dX6_earsBehind_7 : zD cX6_earsBehind 7 (.istore 7) 2 9 := ⟨by decide +kernel, rfl⟩
theorem dX6_earsBehind_9 : zD cX6_earsBehind 9 (.iload 7) 2 11 := ⟨by decide +kernel, rfl⟩
theorem dX6_earsBehind_11 : zD cX6_earsBehind 11 (.iload 4) 2 13 := ⟨by decide +kernel, rfl⟩
theorem dX6_earsBehind_13 : zJ cX6_earsBehind 13 (fun o => .if_icmp .ge o) 42 16 := ⟨29, by decide +kernel, by decide, rfl⟩
theorem dX6_earsBehind_16 : zD cX6_earsBehind 16 (.iload_n 0) 1 17 := ⟨by decide +kernel, rfl⟩
theorem dX6_earsBehind_17 : zD cX6_earsBehind 17 (.iload 5) 2 19 := ⟨by decide +kernel, rfl⟩
theorem dX6_earsBehind_19 : zD cX6_earsBehind 19 (.iload 6) 2 21 := ⟨by decide +kernel, rfl⟩
theorem dX6_earsBehind_21 : zD cX6_earsBehind 21 (.iload_n 3) 1 22 := ⟨by decide +kernel, rfl⟩
theorem dX6_earsBehind_22 : zD cX6_earsBehind 22 (.invokestatic 171) 3 25 := ⟨by decide +kernel, rfl⟩
theorem dX6_earsBehind_25 : zD cX6_earsBehind 25 (.istore 5) 2 27 := ⟨by decide +kernel, rfl⟩
theorem dX6_earsBehind_27 : zD cX6_earsBehind 27 (.iload_n 0) 1 28 := ⟨by decide +kernel, rfl⟩
theorem dX6_earsBehind_28 : zD cX6_earsBehind 28 (.iload 6) 2 30 := ⟨by decide +kernel, rfl⟩
theorem dX6_earsBehind_30 : zD cX6_earsBehind 30 (.iload_n 3) 1 31 := ⟨by decide +kernel, rfl⟩
theorem dX6_earsBehind_31 : zD cX6_earsBehind 31 (.invokestatic 174) 3 34 := ⟨by decide +kernel, rfl⟩
theorem dX6_earsBehind_34 : zD cX6_earsBehind 34 (.istore 6) 2 36 := ⟨by decide +kernel, rfl⟩
theorem dX6_earsBehind_36 : zD cX6_earsBehind 36 (.iinc 7 1) 3 39 := ⟨by decide +kernel, rfl⟩
theorem dX6_earsBehind_39 : zG cX6_earsBehind 39 9 := ⟨(-30), by decide +kernel, by decide⟩
theorem dX6_earsBehind_42 : zD cX6_earsBehind 42 (.iload 5) 2 44 := ⟨by decide +kernel, rfl⟩
theorem dX6_earsBehind_44 : zD cX6_earsBehind 44 (.ireturn) 1 45 := ⟨by decide +kernel, rfl⟩
theorem dX6_blightBehind_0 : zD cX6_blightBehind 0 (.iload_n 1) 1 1 := ⟨by decide +kernel, rfl⟩
theorem dX6_blightBehind_1 : zD cX6_blightBehind 1 (.istore 4) 2 3 := ⟨by decide +kernel, rfl⟩
theorem dX6_blightBehind_3 : zD cX6_blightBehind 3 (.iconst 0) 1 4 := ⟨by decide +kernel, rfl⟩
theorem dX6_blightBehind_4 : zD cX6_blightBehind 4 (.istore 5) 2 6 := ⟨by decide +kernel, rfl⟩
theorem dX6_blightBehind_6 : zD cX6_blightBehind 6 (.iload 5) 2 8 := ⟨by decide +kernel, rfl⟩
theorem dX6_blightBehind_8 : zD cX6_blightBehind 8 (.iload_n 3) 1 9 := ⟨by decide +kernel, rfl⟩
theorem dX6_blightBehind_9 : zJ cX6_blightBehind 9 (fun o => .if_icmp .ge o) 27 12 := ⟨18, by decide +kernel, by decide, rfl⟩
theorem dX6_blightBehind_12 : zD cX6_blightBehind 12 (.iload_n 0) 1 13 := ⟨by decide +kernel, rfl⟩
theorem dX6_blightBehind_13 : zD cX6_blightBehind 13 (.iload 4) 2 15 := ⟨by decide +kernel, rfl⟩
theorem dX6_blightBehind_15 : zD cX6_blightBehind 15 (.iload_n 2) 1 16 := ⟨by decide +kernel, rfl⟩
theorem dX6_blightBehind_16 : zD cX6_blightBehind 16 (.invokestatic 174) 3 19 := ⟨by decide +kernel, rfl⟩
theorem dX6_blightBehind_19 : zD cX6_blightBehind 19 (.istore 4) 2 21 := ⟨by decide +kernel, rfl⟩
theorem dX6_blightBehind_21 : zD cX6_blightBehind 21 (.iinc 5 1) 3 24 := ⟨by decide +kernel, rfl⟩
theorem dX6_blightBehind_24 : zG cX6_blightBehind 24 6 := ⟨(-18), by decide +kernel, by decide⟩
theorem dX6_blightBehind_27 : zD cX6_blightBehind 27 (.iload 4) 2 29 := ⟨by decide +kernel, rfl⟩
theorem dX6_blightBehind_29 : zD cX6_blightBehind 29 (.ireturn) 1 30 := ⟨by decide +kernel, rfl⟩
end
section
theorem dX7_init_0 : zD cX7_init 0 (.aload_n 0) 1 1 := ⟨by decide +kernel, rfl⟩
theorem dX7_init_1 : zD cX7_init 1 (.invokespecial 1) 3 4 := ⟨by decide +kernel, rfl⟩
theorem dX7_init_4 : zD cX7_init 4 (.aload_n 0) 1 5 := ⟨by decide +kernel, rfl⟩
theorem dX7_init_5 : zD cX7_init 5 (.sipush 150) 3 8 := ⟨by decide +kernel, rfl⟩
theorem dX7_init_8 : zD cX7_init 8 (.newarray .int) 2 10 := ⟨by decide +kernel, rfl⟩
theorem dX7_init_10 : zD cX7_init 10 (.putfield 7) 3 13 := ⟨by decide +kernel, rfl⟩
theorem dX7_init_13 : zD cX7_init 13 (.aload_n 0) 1 14 := ⟨by decide +kernel, rfl⟩
theorem dX7_init_14 : zD cX7_init 14 (.bipush 50) 2 16 := ⟨by decide +kernel, rfl⟩
theorem dX7_init_16 : zD cX7_init 16 (.newarray .int) 2 18 := ⟨by decide +kernel, rfl⟩
theorem dX7_init_18 : zD cX7_init 18 (.putfield 13) 3 21 := ⟨by decide +kernel, rfl⟩
theorem dX7_init_21 : zD cX7_init 21 (.aload_n 0) 1 22 := ⟨by decide +kernel, rfl⟩
theorem dX7_init_22 : zD cX7_init 22 (.iconst 2) 1 23 := ⟨by decide +kernel, rfl⟩
theorem dX7_init_23 : zD cX7_init 23 (.newarray .boolean) 2 25 := ⟨by decide +kernel, rfl⟩
theorem dX7_init_25 : zD cX7_init 25 (.putfield 16) 3 28 := ⟨by decide +kernel, rfl⟩
theorem dX7_init_28 : zD cX7_init 28 (.aload_n 0) 1 29 := ⟨by decide +kernel, rfl⟩
theorem dX7_init_29 : zD cX7_init 29 (.bipush 50) 2 31 := ⟨by decide +kernel, rfl⟩
theorem dX7_init_31 : zD cX7_init 31 (.newarray .int) 2 33 := ⟨by decide +kernel, rfl⟩
theorem dX7_init_33 : zD cX7_init 33 (.putfield 20) 3 36 := ⟨by decide +kernel, rfl⟩
theorem dX7_init_36 : zD cX7_init 36 (.aload_n 0) 1 37 := ⟨by decide +kernel, rfl⟩
theorem dX7_init_37 : zD cX7_init 37 (.sipush 160) 3 40 := ⟨by decide +kernel, rfl⟩
theorem dX7_init_40 : zD cX7_init 40 (.newarray .int) 2 42 := ⟨by decide +kernel, rfl⟩
theorem dX7_init_42 : zD cX7_init 42 (.putfield 23) 3 45 := ⟨by decide +kernel, rfl⟩
theorem dX7_init_45 : zD cX7_init 45 (.aload_n 0) 1 46 := ⟨by decide +kernel, rfl⟩
theorem dX7_init_46 : zD cX7_init 46 (.iconst 4) 1 47 := ⟨by decide +kernel, rfl⟩
theorem dX7_init_47 : zD cX7_init 47 (.newarray .int) 2 49 := ⟨by decide +kernel, rfl⟩
theorem dX7_init_49 : zD cX7_init 49 (.putfield 26) 3 52 := ⟨by decide +kernel, rfl⟩
theorem dX7_init_52 : zD cX7_init 52 (.aload_n 0) 1 53 := ⟨by decide +kernel, rfl⟩
theorem dX7_init_53 : zD cX7_init 53 (.bipush 126) 2 55 := ⟨by decide +kernel, rfl⟩
theorem dX7_init_55 : zD cX7_init 55 (.newarray .int) 2 57 := ⟨by decide +kernel, rfl⟩
theorem dX7_init_57 : zD cX7_init 57 (.putfield 29) 3 60 := ⟨by decide +kernel, rfl⟩
theorem dX7_init_60 : zD cX7_init 60 (.aload_n 0) 1 61 := ⟨by decide +kernel, rfl⟩
theorem dX7_init_61 : zD cX7_init 61 (.sipush 210) 3 64 := ⟨by decide +kernel, rfl⟩
theorem dX7_init_64 : zD cX7_init 64 (.newarray .int) 2 66 := ⟨by decide +kernel, rfl⟩
theorem dX7_init_66 : zD cX7_init 66 (.putfield 32) 3 69 := ⟨by decide +kernel, rfl⟩
theorem dX7_init_69 : zD cX7_init 69 (.aload_n 0) 1 70 := ⟨by decide +kernel, rfl⟩
theorem dX7_init_70 : zD cX7_init 70 (.iconst 4) 1 71 := ⟨by decide +kernel, rfl⟩
theorem dX7_init_71 : zD cX7_init 71 (.newarray .int) 2 73 := ⟨by decide +kernel, rfl⟩
theorem dX7_init_73 : zD cX7_init 73 (.putfield 35) 3 76 := ⟨by decide +kernel, rfl⟩
theorem dX7_init_76 : zD cX7_init 76 (.aload_n 0) 1 77 := ⟨by decide +kernel, rfl⟩
theorem dX7_init_77 : zD cX7_init 77 (.iconst 4) 1 78 := ⟨by decide +kernel, rfl⟩
theorem dX7_init_78 : zD cX7_init 78 (.newarray .int) 2 80 := ⟨by decide +kernel, rfl⟩
theorem dX7_init_80 : zD cX7_init 80 (.putfield 38) 3 83 := ⟨by decide +kernel, rfl⟩
theorem dX7_init_83 : zD cX7_init 83 (.aload_n 0) 1 84 := ⟨by decide +kernel, rfl⟩
theorem dX7_init_84 : zD cX7_init 84 (.sipush 160) 3 87 := ⟨by decide +kernel, rfl⟩
theorem dX7_init_87 : zD cX7_init 87 (.newarray .int) 2 89 := ⟨by decide +kernel, rfl⟩
theorem dX7_init_89 : zD cX7_init 89 (.putfield 41) 3 92 := ⟨by decide +kernel, rfl⟩
theorem dX7_init_92 : zD cX7_init 92 (.aload_n 0) 1 93 := ⟨by decide +kernel, rfl⟩
theorem dX7_init_93 : zD cX7_init 93 (.bipush 50) 2 95 := ⟨by decide +kernel, rfl⟩
theorem dX7_init_95 : zD cX7_init 95 (.newarray .int) 2 97 := ⟨by decide +kernel, rfl⟩
theorem dX7_init_97 : zD cX7_init 97 (.putfield 44) 3 100 := ⟨by decide +kernel, rfl⟩
theorem dX7_init_100 : zD cX7_init 100 (.iconst 0) 1 101 := ⟨by decide +kernel, rfl⟩
theorem dX7_init_101 : zD cX7_init 101 (.istore_n 1) 1 102 := ⟨by decide +kernel, rfl⟩
theorem dX7_init_102 : zD cX7_init 102 (.iload_n 1) 1 103 := ⟨by decide +kernel, rfl⟩
theorem dX7_init_103 : zD cX7_init 103 (.iconst 4) 1 104 := ⟨by decide +kernel, rfl⟩
theorem dX7_init_104 : zJ cX7_init 104 (fun o => .if_icmp .ge o) 121 107 := ⟨17, by decide +kernel, by decide, rfl⟩
theorem dX7_init_107 : zD cX7_init 107 (.aload_n 0) 1 108 := ⟨by decide +kernel, rfl⟩
theorem dX7_init_108 : zD cX7_init 108 (.getfield 35) 3 111 := ⟨by decide +kernel, rfl⟩
theorem dX7_init_111 : zD cX7_init 111 (.iload_n 1) 1 112 := ⟨by decide +kernel, rfl⟩
theorem dX7_init_112 : zD cX7_init 112 (.bipush (-4)) 2 114 := ⟨by decide +kernel, rfl⟩
theorem dX7_init_114 : zD cX7_init 114 (.iastore) 1 115 := ⟨by decide +kernel, rfl⟩
theorem dX7_init_115 : zD cX7_init 115 (.iinc 1 1) 3 118 := ⟨by decide +kernel, rfl⟩
theorem dX7_init_118 : zG cX7_init 118 102 := ⟨(-16), by decide +kernel, by decide⟩
theorem dX7_init_121 : zD cX7_init 121 (.aload_n 0) 1 122 := ⟨by decide +kernel, rfl⟩
theorem dX7_init_122 : zD cX7_init 122 (.invokevirtual 47) 3 125 := ⟨by decide +kernel, rfl⟩
theorem dX7_init_125 : zD cX7_init 125 (.aload_n 0) 1 126 := ⟨by decide +kernel, rfl⟩
theorem dX7_init_126 : zD cX7_init 126 (.invokevirtual 50) 3 129 := ⟨by decide +kernel, rfl⟩
theorem dX7_init_129 : zD cX7_init 129 (.return_) 1 130 := ⟨by decide +kernel, rfl⟩
theorem dX7_in_0 : zD cX7_in 0 (.lload_n 0) 1 1 := ⟨by decide +kernel, rfl⟩
theorem dX7_in_1 : zD cX7_in 1 (.lload_n 2) 1 2 := ⟨by decide +kernel, rfl⟩
theorem dX7_in_2 : zD cX7_in 2 (.lcmp) 1 3 := ⟨by decide +kernel, rfl⟩
theorem dX7_in_3 : zJ cX7_in 3 (fun o => .ifCond .lt o) 17 6 := ⟨14, by decide +kernel, by decide, rfl⟩
theorem dX7_in_6 : zD cX7_in 6 (.lload_n 0) 1 7 := ⟨by decide +kernel, rfl⟩
theorem dX7_in_7 : zD cX7_in 7 (.lload 4) 2 9 := ⟨by decide +kernel, rfl⟩
theorem dX7_in_9 : zD cX7_in 9 (.lcmp) 1 10 := ⟨by decide +kernel, rfl⟩
theorem dX7_in_10 : zJ cX7_in 10 (fun o => .ifCond .gt o) 17 13 := ⟨7, by decide +kernel, by decide, rfl⟩
theorem dX7_in_13 : zD cX7_in 13 (.iconst 1) 1 14 := ⟨by decide +kernel, rfl⟩
theorem dX7_in_14 : zG cX7_in 14 18 := ⟨4, by decide +kernel, by decide⟩
theorem dX7_in_17 : zD cX7_in 17 (.iconst 0) 1 18 := ⟨by decide +kernel, rfl⟩
theorem dX7_in_18 : zD cX7_in 18 (.ireturn) 1 19 := ⟨by decide +kernel, rfl⟩
theorem dX7_flag_0 : zD cX7_flag 0 (.iload_n 0) 1 1 := ⟨by decide +kernel, rfl⟩
theorem dX7_flag_1 : zJ cX7_flag 1 (fun o => .ifCond .eq o) 8 4 := ⟨7, by decide +kernel, by decide, rfl⟩
theorem dX7_flag_4 : zD cX7_flag 4 (.iconst 1) 1 5 := ⟨by decide +kernel, rfl⟩
theorem dX7_flag_5 : zG cX7_flag 5 9 := ⟨4, by decide +kernel, by decide⟩
theorem dX7_flag_8 : zD cX7_flag 8 (.iconst 0) 1 9 := ⟨by decide +kernel, rfl⟩
theorem dX7_flag_9 : zD cX7_flag 9 (.ireturn) 1 10 := ⟨by decide +kernel, rfl⟩
theorem dX7_within_0 : zD cX7_within 0 (.iload_n 0) 1 1 := ⟨by decide +kernel, rfl⟩
theorem dX7_within_1 : zJ cX7_within 1 (fun o => .ifCond .ge o) 8 4 := ⟨7, by decide +kernel, by decide, rfl⟩
theorem dX7_within_4 : zD cX7_within 4 (.iconst 0) 1 5 := ⟨by decide +kernel, rfl⟩
theorem dX7_within_5 : zG cX7_within 5 18 := ⟨13, by decide +kernel, by decide⟩
theorem dX7_within_8 : zD cX7_within 8 (.iload_n 0) 1 9 := ⟨by decide +kernel, rfl⟩
theorem dX7_within_9 : zD cX7_within 9 (.iload_n 1) 1 10 := ⟨by decide +kernel, rfl⟩
theorem dX7_within_10 : zJ cX7_within 10 (fun o => .if_icmp .le o) 17 13 := ⟨7, by decide +kernel, by decide, rfl⟩
theorem dX7_within_13 : zD cX7_within 13 (.iload_n 1) 1 14 := ⟨by decide +kernel, rfl⟩
theorem dX7_within_14 : zG cX7_within 14 18 := ⟨4, by decide +kernel, by decide⟩
theorem dX7_within_17 : zD cX7_within 17 (.iload_n 0) 1 18 := ⟨by decide +kernel, rfl⟩
theorem dX7_within_18 : zD cX7_within 18 (.ireturn) 1 19 := ⟨by decide +kernel, rfl⟩
theorem dX7_firstDraft_0 : zD cX7_firstDraft 0 (.iconst 0) 1 1 := ⟨by decide +kernel, rfl⟩
theorem dX7_firstDraft_1 : zD cX7_firstDraft 1 (.istore_n 1) 1 2 := ⟨by decide +kernel, rfl⟩
theorem dX7_firstDraft_2 : zD cX7_firstDraft 2 (.iload_n 1) 1 3 := ⟨by decide +kernel, rfl⟩
theorem dX7_firstDraft_3 : zD cX7_firstDraft 3 (.bipush 50) 2 5 := ⟨by decide +kernel, rfl⟩
theorem dX7_firstDraft_5 : zJ cX7_firstDraft 5 (fun o => .if_icmp .ge o) 21 8 := ⟨16, by decide +kernel, by decide, rfl⟩
theorem dX7_firstDraft_8 : zD cX7_firstDraft 8 (.aload_n 0) 1 9 := ⟨by decide +kernel, rfl⟩
theorem dX7_firstDraft_9 : zD cX7_firstDraft 9 (.getfield 20) 3 12 := ⟨by decide +kernel, rfl⟩
theorem dX7_firstDraft_12 : zD cX7_firstDraft 12 (.iload_n 1) 1 13 := ⟨by decide +kernel, rfl⟩
theorem dX7_firstDraft_13 : zD cX7_firstDraft 13 (.iconst 0) 1 14 := ⟨by decide +kernel, rfl⟩
theorem dX7_firstDraft_14 : zD cX7_firstDraft 14 (.iastore) 1 15 := ⟨by decide +kernel, rfl⟩
theorem dX7_firstDraft_15 : zD cX7_firstDraft 15 (.iinc 1 1) 3 18 := ⟨by decide +kernel, rfl⟩
theorem dX7_firstDraft_18 : zG cX7_firstDraft 18 2 := ⟨(-16), by decide +kernel, by decide⟩
theorem dX7_firstDraft_21 : zD cX7_firstDraft 21 (.aload_n 0) 1 22 := ⟨by decide +kernel, rfl⟩
theorem dX7_firstDraft_22 : zD cX7_firstDraft 22 (.getfield 20) 3 25 := ⟨by decide +kernel, rfl⟩
theorem dX7_firstDraft_25 : zD cX7_firstDraft 25 (.bipush 28) 2 27 := ⟨by decide +kernel, rfl⟩
theorem dX7_firstDraft_27 : zD cX7_firstDraft 27 (.bipush 20) 2 29 := ⟨by decide +kernel, rfl⟩
theorem dX7_firstDraft_29 : zD cX7_firstDraft 29 (.iastore) 1 30 := ⟨by decide +kernel, rfl⟩
theorem dX7_firstDraft_30 : zD cX7_firstDraft 30 (.aload_n 0) 1 31 := ⟨by decide +kernel, rfl⟩
theorem dX7_firstDraft_31 : zD cX7_firstDraft 31 (.iconst 0) 1 32 := ⟨by decide +kernel, rfl⟩
theorem dX7_firstDraft_32 : zD cX7_firstDraft 32 (.putfield 53) 3 35 := ⟨by decide +kernel, rfl⟩
theorem dX7_firstDraft_35 : zD cX7_firstDraft 35 (.aload_n 0) 1 36 := ⟨by decide +kernel, rfl⟩
theorem dX7_firstDraft_36 : zD cX7_firstDraft 36 (.iconst (-1)) 1 37 := ⟨by decide +kernel, rfl⟩
theorem dX7_firstDraft_37 : zD cX7_firstDraft 37 (.putfield 57) 3 40 := ⟨by decide +kernel, rfl⟩
theorem dX7_firstDraft_40 : zD cX7_firstDraft 40 (.return_) 1 41 := ⟨by decide +kernel, rfl⟩
theorem dX7_keepDraft_0 : zD cX7_keepDraft 0 (.iconst 0) 1 1 := ⟨by decide +kernel, rfl⟩
theorem dX7_keepDraft_1 : zD cX7_keepDraft 1 (.istore_n 1) 1 2 := ⟨by decide +kernel, rfl⟩
theorem dX7_keepDraft_2 : zD cX7_keepDraft 2 (.iload_n 1) 1 3 := ⟨by decide +kernel, rfl⟩
theorem dX7_keepDraft_3 : zD cX7_keepDraft 3 (.bipush 50) 2 5 := ⟨by decide +kernel, rfl⟩
theorem dX7_keepDraft_5 : zJ cX7_keepDraft 5 (fun o => .if_icmp .ge o) 26 8 := ⟨21, by decide +kernel, by decide, rfl⟩
theorem dX7_keepDraft_8 : zD cX7_keepDraft 8 (.aload_n 0) 1 9 := ⟨by decide +kernel, rfl⟩
theorem dX7_keepDraft_9 : zD cX7_keepDraft 9 (.getfield 7) 3 12 := ⟨by decide +kernel, rfl⟩
theorem dX7_keepDraft_12 : zD cX7_keepDraft 12 (.iload_n 1) 1 13 := ⟨by decide +kernel, rfl⟩
theorem dX7_keepDraft_13 : zD cX7_keepDraft 13 (.aload_n 0) 1 14 := ⟨by decide +kernel, rfl⟩
theorem dX7_keepDraft_14 : zD cX7_keepDraft 14 (.getfield 20) 3 17 := ⟨by decide +kernel, rfl⟩
theorem dX7_keepDraft_17 : zD cX7_keepDraft 17 (.iload_n 1) 1 18 := ⟨by decide +kernel, rfl⟩
theorem dX7_keepDraft_18 : zD cX7_keepDraft 18 (.iaload) 1 19 := ⟨by decide +kernel, rfl⟩
theorem dX7_keepDraft_19 : zD cX7_keepDraft 19 (.iastore) 1 20 := ⟨by decide +kernel, rfl⟩
theorem dX7_keepDraft_20 : zD cX7_keepDraft 20 (.iinc 1 1) 3 23 := ⟨by decide +kernel, rfl⟩
theorem dX7_keepDraft_23 : zG cX7_keepDraft 23 2 := ⟨(-21), by decide +kernel, by decide⟩
theorem dX7_keepDraft_26 : zD cX7_keepDraft 26 (.aload_n 0) 1 27 := ⟨by decide +kernel, rfl⟩
theorem dX7_keepDraft_27 : zD cX7_keepDraft 27 (.getfield 16) 3 30 := ⟨by decide +kernel, rfl⟩
theorem dX7_keepDraft_30 : zD cX7_keepDraft 30 (.iconst 0) 1 31 := ⟨by decide +kernel, rfl⟩
theorem dX7_keepDraft_31 : zD cX7_keepDraft 31 (.iconst 0) 1 32 := ⟨by decide +kernel, rfl⟩
theorem dX7_keepDraft_32 : zD cX7_keepDraft 32 (.bastore) 1 33 := ⟨by decide +kernel, rfl⟩
theorem dX7_keepDraft_33 : zD cX7_keepDraft 33 (.aload_n 0) 1 34 := ⟨by decide +kernel, rfl⟩
theorem dX7_keepDraft_34 : zD cX7_keepDraft 34 (.getfield 16) 3 37 := ⟨by decide +kernel, rfl⟩
theorem dX7_keepDraft_37 : zD cX7_keepDraft 37 (.iconst 1) 1 38 := ⟨by decide +kernel, rfl⟩
theorem dX7_keepDraft_38 : zD cX7_keepDraft 38 (.iconst 0) 1 39 := ⟨by decide +kernel, rfl⟩
theorem dX7_keepDraft_39 : zD cX7_keepDraft 39 (.bastore) 1 40 := ⟨by decide +kernel, rfl⟩
theorem dX7_keepDraft_40 : zD cX7_keepDraft 40 (.return_) 1 41 := ⟨by decide +kernel, rfl⟩
theorem dX7_feed_0 : zD cX7_feed 0 (.iload_n 1) 1 1 := ⟨by decide +kernel, rfl⟩
theorem dX7_feed_1 : zD cX7_feed 1 (.i2l) 1 2 := ⟨by decide +kernel, rfl⟩
theorem dX7_feed_2 : zD cX7_feed 2 (.lconst 0) 1 3 := ⟨by decide +kernel, rfl⟩
theorem dX7_feed_3 : zD cX7_feed 3 (.ldc2_w 61) 3 6 := ⟨by decide +kernel, rfl⟩
theorem dX7_feed_6 : zD cX7_feed 6 (.invokestatic 63) 3 9 := ⟨by decide +kernel, rfl⟩
theorem dX7_feed_9 : zJ cX7_feed 9 (fun o => .ifCond .ne o) 14 12 := ⟨5, by decide +kernel, by decide, rfl⟩
theorem dX7_feed_12 : zD cX7_feed 12 (.iconst (-1)) 1 13 := ⟨by decide +kernel, rfl⟩
theorem dX7_feed_13 : zD cX7_feed 13 (.ireturn) 1 14 := ⟨by decide +kernel, rfl⟩
theorem dX7_feed_14 : zD cX7_feed 14 (.aload_n 0) 1 15 := ⟨by decide +kernel, rfl⟩
theorem dX7_feed_15 : zD cX7_feed 15 (.getfield 67) 3 18 := ⟨by decide +kernel, rfl⟩
theorem dX7_feed_18 : zD cX7_feed 18 (.sipush 160) 3 21 := ⟨by decide +kernel, rfl⟩
theorem dX7_feed_21 : zJ cX7_feed 21 (fun o => .if_icmp .ne o) 27 24 := ⟨6, by decide +kernel, by decide, rfl⟩
theorem dX7_feed_24 : zD cX7_feed 24 (.bipush (-3)) 2 26 := ⟨by decide +kernel, rfl⟩
theorem dX7_feed_26 : zD cX7_feed 26 (.ireturn) 1 27 := ⟨by decide +kernel, rfl⟩
theorem dX7_feed_27 : zD cX7_feed 27 (.aload_n 0) 1 28 := ⟨by decide +kernel, rfl⟩
theorem dX7_feed_28 : zD cX7_feed 28 (.getfield 23) 3 31 := ⟨by decide +kernel, rfl⟩
theorem dX7_feed_31 : zD cX7_feed 31 (.aload_n 0) 1 32 := ⟨by decide +kernel, rfl⟩
theorem dX7_feed_32 : zD cX7_feed 32 (.getfield 67) 3 35 := ⟨by decide +kernel, rfl⟩
theorem dX7_feed_35 : zD cX7_feed 35 (.iload_n 1) 1 36 := ⟨by decide +kernel, rfl⟩
theorem dX7_feed_36 : zD cX7_feed 36 (.iastore) 1 37 := ⟨by decide +kernel, rfl⟩
theorem dX7_feed_37 : zD cX7_feed 37 (.aload_n 0) 1 38 := ⟨by decide +kernel, rfl⟩
theorem dX7_feed_38 : zD cX7_feed 38 (.dup) 1 39 := ⟨by decide +kernel, rfl⟩
theorem dX7_feed_39 : zD cX7_feed 39 (.getfield 67) 3 42 := ⟨by decide +kernel, rfl⟩
theorem dX7_feed_42 : zD cX7_feed 42 (.iconst 1) 1 43 := ⟨by decide +kernel, rfl⟩
theorem dX7_feed_43 : zD cX7_feed 43 (.iadd) 1 44 := ⟨by decide +kernel, rfl⟩
theorem dX7_feed_44 : zD cX7_feed 44 (.putfield 67) 3 47 := ⟨by decide +kernel, rfl⟩
theorem dX7_feed_47 : zD cX7_feed 47 (.aload_n 0) 1 48 := ⟨by decide +kernel, rfl⟩
theorem dX7_feed_48 : zD cX7_feed 48 (.getfield 67) 3 51 := ⟨by decide +kernel, rfl⟩
theorem dX7_feed_51 : zD cX7_feed 51 (.ireturn) 1 52 := ⟨by decide +kernel, rfl⟩
theorem dX7_end_0 : zD cX7_end 0 (.iload_n 1) 1 1 := ⟨by decide +kernel, rfl⟩
theorem dX7_end_1 : zD cX7_end 1 (.i2l) 1 2 := ⟨by decide +kernel, rfl⟩
theorem dX7_end_2 : zD cX7_end 2 (.lconst 0) 1 3 := ⟨by decide +kernel, rfl⟩
theorem dX7_end_3 : zD cX7_end 3 (.aload_n 0) 1 4 := ⟨by decide +kernel, rfl⟩
theorem dX7_end_4 : zD cX7_end 4 (.getfield 67) 3 7 := ⟨by decide +kernel, rfl⟩
theorem dX7_end_7 : zD cX7_end 7 (.i2l) 1 8 := ⟨by decide +kernel, rfl⟩
theorem dX7_end_8 : zD cX7_end 8 (.invokestatic 63) 3 11 := ⟨by decide +kernel, rfl⟩
theorem dX7_end_11 : zJ cX7_end 11 (fun o => .ifCond .ne o) 16 14 := ⟨5, by decide +kernel, by decide, rfl⟩
theorem dX7_end_14 : zD cX7_end 14 (.iconst (-1)) 1 15 := ⟨by decide +kernel, rfl⟩
theorem dX7_end_15 : zD cX7_end 15 (.ireturn) 1 16 := ⟨by decide +kernel, rfl⟩
theorem dX7_end_16 : zD cX7_end 16 (.aload_n 0) 1 17 := ⟨by decide +kernel, rfl⟩
theorem dX7_end_17 : zD cX7_end 17 (.getfield 67) 3 20 := ⟨by decide +kernel, rfl⟩
theorem dX7_end_20 : zD cX7_end 20 (.istore_n 2) 1 21 := ⟨by decide +kernel, rfl⟩
theorem dX7_end_21 : zD cX7_end 21 (.aload_n 0) 1 22 := ⟨by decide +kernel, rfl⟩
theorem dX7_end_22 : zD cX7_end 22 (.iload_n 1) 1 23 := ⟨by decide +kernel, rfl⟩
theorem dX7_end_23 : zD cX7_end 23 (.putfield 67) 3 26 := ⟨by decide +kernel, rfl⟩
theorem dX7_end_26 : zD cX7_end 26 (.iload_n 2) 1 27 := ⟨by decide +kernel, rfl⟩
theorem dX7_end_27 : zD cX7_end 27 (.ireturn) 1 28 := ⟨by decide +kernel, rfl⟩
theorem dX7_requires_0 : zD cX7_requires 0 (.iload_n 1) 1 1 := ⟨by decide +kernel, rfl⟩
theorem dX7_requires_1 : zJ cX7_requires 1 (fun o => .ifCond .ne o) 24 4 := ⟨23, by decide +kernel, by decide, rfl⟩
theorem dX7_requires_4 : zD cX7_requires 4 (.aload_n 0) 1 5 := ⟨by decide +kernel, rfl⟩
theorem dX7_requires_5 : zD cX7_requires 5 (.getfield 70) 3 8 := ⟨by decide +kernel, rfl⟩
theorem dX7_requires_8 : zJ cX7_requires 8 (fun o => .ifCond .ne o) 24 11 := ⟨16, by decide +kernel, by decide, rfl⟩
theorem dX7_requires_11 : zD cX7_requires 11 (.aload_n 0) 1 12 := ⟨by decide +kernel, rfl⟩
theorem dX7_requires_12 : zD cX7_requires 12 (.iload_n 2) 1 13 := ⟨by decide +kernel, rfl⟩
theorem dX7_requires_13 : zD cX7_requires 13 (.putfield 70) 3 16 := ⟨by decide +kernel, rfl⟩
theorem dX7_requires_16 : zD cX7_requires 16 (.aload_n 0) 1 17 := ⟨by decide +kernel, rfl⟩
theorem dX7_requires_17 : zD cX7_requires 17 (.aload_n 0) 1 18 := ⟨by decide +kernel, rfl⟩
theorem dX7_requires_18 : zD cX7_requires 18 (.getfield 73) 3 21 := ⟨by decide +kernel, rfl⟩
theorem dX7_requires_21 : zD cX7_requires 21 (.putfield 76) 3 24 := ⟨by decide +kernel, rfl⟩
theorem dX7_requires_24 : zD cX7_requires 24 (.return_) 1 25 := ⟨by decide +kernel, rfl⟩
theorem dX7_byteAt_0 : zD cX7_byteAt 0 (.iload_n 1) 1 1 := ⟨by decide +kernel, rfl⟩
theorem dX7_byteAt_1 : zD cX7_byteAt 1 (.aload_n 0) 1 2 := ⟨by decide +kernel, rfl⟩
theorem dX7_byteAt_2 : zD cX7_byteAt 2 (.getfield 67) 3 5 := ⟨by decide +kernel, rfl⟩
theorem dX7_byteAt_5 : zJ cX7_byteAt 5 (fun o => .if_icmp .ge o) 17 8 := ⟨12, by decide +kernel, by decide, rfl⟩
theorem dX7_byteAt_8 : zD cX7_byteAt 8 (.aload_n 0) 1 9 := ⟨by decide +kernel, rfl⟩
theorem dX7_byteAt_9 : zD cX7_byteAt 9 (.getfield 23) 3 12 := ⟨by decide +kernel, rfl⟩
theorem dX7_byteAt_12 : zD cX7_byteAt 12 (.iload_n 1) 1 13 := ⟨by decide +kernel, rfl⟩
theorem dX7_byteAt_13 : zD cX7_byteAt 13 (.iaload) 1 14 := ⟨by decide +kernel, rfl⟩
theorem dX7_byteAt_14 : zG cX7_byteAt 14 18 := ⟨4, by decide +kernel, by decide⟩
theorem dX7_byteAt_17 : zD cX7_byteAt 17 (.iconst (-1)) 1 18 := ⟨by decide +kernel, rfl⟩
theorem dX7_byteAt_18 : zD cX7_byteAt 18 (.ireturn) 1 19 := ⟨by decide +kernel, rfl⟩
theorem dX7_is_0 : zD cX7_is 0 (.aload_n 0) 1 1 := ⟨by decide +kernel, rfl⟩
theorem dX7_is_1 : zD cX7_is 1 (.getfield 79) 3 4 := ⟨by decide +kernel, rfl⟩
theorem dX7_is_4 : zD cX7_is 4 (.aload_n 0) 1 5 := ⟨by decide +kernel, rfl⟩
theorem dX7_is_5 : zD cX7_is 5 (.getfield 73) 3 8 := ⟨by decide +kernel, rfl⟩
theorem dX7_is_8 : zD cX7_is 8 (.isub) 1 9 := ⟨by decide +kernel, rfl⟩
theorem dX7_is_9 : zD cX7_is 9 (.iload_n 1) 1 10 := ⟨by decide +kernel, rfl⟩
theorem dX7_is_10 : zJ cX7_is 10 (fun o => .if_icmp .ne o) 58 13 := ⟨48, by decide +kernel, by decide, rfl⟩
theorem dX7_is_13 : zD cX7_is 13 (.aload_n 0) 1 14 := ⟨by decide +kernel, rfl⟩
theorem dX7_is_14 : zD cX7_is 14 (.aload_n 0) 1 15 := ⟨by decide +kernel, rfl⟩
theorem dX7_is_15 : zD cX7_is 15 (.getfield 73) 3 18 := ⟨by decide +kernel, rfl⟩
theorem dX7_is_18 : zD cX7_is 18 (.invokevirtual 82) 3 21 := ⟨by decide +kernel, rfl⟩
theorem dX7_is_21 : zD cX7_is 21 (.iload_n 2) 1 22 := ⟨by decide +kernel, rfl⟩
theorem dX7_is_22 : zJ cX7_is 22 (fun o => .if_icmp .ne o) 58 25 := ⟨36, by decide +kernel, by decide, rfl⟩
theorem dX7_is_25 : zD cX7_is 25 (.aload_n 0) 1 26 := ⟨by decide +kernel, rfl⟩
theorem dX7_is_26 : zD cX7_is 26 (.aload_n 0) 1 27 := ⟨by decide +kernel, rfl⟩
theorem dX7_is_27 : zD cX7_is 27 (.getfield 73) 3 30 := ⟨by decide +kernel, rfl⟩
theorem dX7_is_30 : zD cX7_is 30 (.iconst 1) 1 31 := ⟨by decide +kernel, rfl⟩
theorem dX7_is_31 : zD cX7_is 31 (.iadd) 1 32 := ⟨by decide +kernel, rfl⟩
theorem dX7_is_32 : zD cX7_is 32 (.invokevirtual 82) 3 35 := ⟨by decide +kernel, rfl⟩
theorem dX7_is_35 : zD cX7_is 35 (.iload_n 3) 1 36 := ⟨by decide +kernel, rfl⟩
theorem dX7_is_36 : zJ cX7_is 36 (fun o => .if_icmp .ne o) 58 39 := ⟨22, by decide +kernel, by decide, rfl⟩
theorem dX7_is_39 : zD cX7_is 39 (.aload_n 0) 1 40 := ⟨by decide +kernel, rfl⟩
theorem dX7_is_40 : zD cX7_is 40 (.aload_n 0) 1 41 := ⟨by decide +kernel, rfl⟩
theorem dX7_is_41 : zD cX7_is 41 (.getfield 73) 3 44 := ⟨by decide +kernel, rfl⟩
theorem dX7_is_44 : zD cX7_is 44 (.iconst 2) 1 45 := ⟨by decide +kernel, rfl⟩
theorem dX7_is_45 : zD cX7_is 45 (.iadd) 1 46 := ⟨by decide +kernel, rfl⟩
theorem dX7_is_46 : zD cX7_is 46 (.invokevirtual 82) 3 49 := ⟨by decide +kernel, rfl⟩
theorem dX7_is_49 : zD cX7_is 49 (.iload 4) 2 51 := ⟨by decide +kernel, rfl⟩
theorem dX7_is_51 : zJ cX7_is 51 (fun o => .if_icmp .ne o) 58 54 := ⟨7, by decide +kernel, by decide, rfl⟩
theorem dX7_is_54 : zD cX7_is 54 (.iconst 1) 1 55 := ⟨by decide +kernel, rfl⟩
theorem dX7_is_55 : zG cX7_is 55 59 := ⟨4, by decide +kernel, by decide⟩
theorem dX7_is_58 : zD cX7_is 58 (.iconst 0) 1 59 := ⟨by decide +kernel, rfl⟩
theorem dX7_is_59 : zD cX7_is 59 (.ireturn) 1 60 := ⟨by decide +kernel, rfl⟩
theorem dX7_endsIn_0 : zD cX7_endsIn 0 (.aload_n 0) 1 1 := ⟨by decide +kernel, rfl⟩
theorem dX7_endsIn_1 : zD cX7_endsIn 1 (.aload_n 0) 1 2 := ⟨by decide +kernel, rfl⟩
theorem dX7_endsIn_2 : zD cX7_endsIn 2 (.getfield 73) 3 5 := ⟨by decide +kernel, rfl⟩
theorem dX7_endsIn_5 : zD cX7_endsIn 5 (.iconst 3) 1 6 := ⟨by decide +kernel, rfl⟩
theorem dX7_endsIn_6 : zD cX7_endsIn 6 (.iadd) 1 7 := ⟨by decide +kernel, rfl⟩
theorem dX7_endsIn_7 : zD cX7_endsIn 7 (.invokevirtual 82) 3 10 := ⟨by decide +kernel, rfl⟩
theorem dX7_endsIn_10 : zD cX7_endsIn 10 (.iload_n 1) 1 11 := ⟨by decide +kernel, rfl⟩
theorem dX7_endsIn_11 : zJ cX7_endsIn 11 (fun o => .if_icmp .ne o) 36 14 := ⟨25, by decide +kernel, by decide, rfl⟩
theorem dX7_endsIn_14 : zD cX7_endsIn 14 (.iload_n 2) 1 15 := ⟨by decide +kernel, rfl⟩
theorem dX7_endsIn_15 : zJ cX7_endsIn 15 (fun o => .ifCond .eq o) 32 18 := ⟨17, by decide +kernel, by decide, rfl⟩
theorem dX7_endsIn_18 : zD cX7_endsIn 18 (.aload_n 0) 1 19 := ⟨by decide +kernel, rfl⟩
theorem dX7_endsIn_19 : zD cX7_endsIn 19 (.aload_n 0) 1 20 := ⟨by decide +kernel, rfl⟩
theorem dX7_endsIn_20 : zD cX7_endsIn 20 (.getfield 73) 3 23 := ⟨by decide +kernel, rfl⟩
theorem dX7_endsIn_23 : zD cX7_endsIn 23 (.iconst 4) 1 24 := ⟨by decide +kernel, rfl⟩
theorem dX7_endsIn_24 : zD cX7_endsIn 24 (.iadd) 1 25 := ⟨by decide +kernel, rfl⟩
theorem dX7_endsIn_25 : zD cX7_endsIn 25 (.invokevirtual 82) 3 28 := ⟨by decide +kernel, rfl⟩
theorem dX7_endsIn_28 : zD cX7_endsIn 28 (.iload_n 2) 1 29 := ⟨by decide +kernel, rfl⟩
theorem dX7_endsIn_29 : zJ cX7_endsIn 29 (fun o => .if_icmp .ne o) 36 32 := ⟨7, by decide +kernel, by decide, rfl⟩
theorem dX7_endsIn_32 : zD cX7_endsIn 32 (.iconst 1) 1 33 := ⟨by decide +kernel, rfl⟩
theorem dX7_endsIn_33 : zG cX7_endsIn 33 37 := ⟨4, by decide +kernel, by decide⟩
theorem dX7_endsIn_36 : zD cX7_endsIn 36 (.iconst 0) 1 37 := ⟨by decide +kernel, rfl⟩
theorem dX7_endsIn_37 : zD cX7_endsIn 37 (.ireturn) 1 38 := ⟨by decide +kernel, rfl⟩
theorem dX7_lineNow_0 : zD cX7_lineNow 0 (.aload_n 0) 1 1 := ⟨by decide +kernel, rfl⟩
theorem dX7_lineNow_1 : zD cX7_lineNow 1 (.iconst 5) 1 2 := ⟨by decide +kernel, rfl⟩
theorem dX7_lineNow_2 : zD cX7_lineNow 2 (.bipush 112) 2 4 := ⟨by decide +kernel, rfl⟩
theorem dX7_lineNow_4 : zD cX7_lineNow 4 (.bipush 108) 2 6 := ⟨by decide +kernel, rfl⟩
theorem dX7_lineNow_6 : zD cX7_lineNow 6 (.bipush 97) 2 8 := ⟨by decide +kernel, rfl⟩
theorem dX7_lineNow_8 : zD cX7_lineNow 8 (.invokevirtual 86) 3 11 := ⟨by decide +kernel, rfl⟩
theorem dX7_lineNow_11 : zJ cX7_lineNow 11 (fun o => .ifCond .eq o) 27 14 := ⟨16, by decide +kernel, by decide, rfl⟩
theorem dX7_lineNow_14 : zD cX7_lineNow 14 (.aload_n 0) 1 15 := ⟨by decide +kernel, rfl⟩
theorem dX7_lineNow_15 : zD cX7_lineNow 15 (.bipush 105) 2 17 := ⟨by decide +kernel, rfl⟩
theorem dX7_lineNow_17 : zD cX7_lineNow 17 (.bipush 110) 2 19 := ⟨by decide +kernel, rfl⟩
theorem dX7_lineNow_19 : zD cX7_lineNow 19 (.invokevirtual 90) 3 22 := ⟨by decide +kernel, rfl⟩
theorem dX7_lineNow_22 : zJ cX7_lineNow 22 (fun o => .ifCond .eq o) 27 25 := ⟨5, by decide +kernel, by decide, rfl⟩
theorem dX7_lineNow_25 : zD cX7_lineNow 25 (.iconst 0) 1 26 := ⟨by decide +kernel, rfl⟩
theorem dX7_lineNow_26 : zD cX7_lineNow 26 (.ireturn) 1 27 := ⟨by decide +kernel, rfl⟩
theorem dX7_lineNow_27 : zD cX7_lineNow 27 (.aload_n 0) 1 28 := ⟨by decide +kernel, rfl⟩
theorem dX7_lineNow_28 : zD cX7_lineNow 28 (.iconst 4) 1 29 := ⟨by decide +kernel, rfl⟩
theorem dX7_lineNow_29 : zD cX7_lineNow 29 (.bipush 118) 2 31 := ⟨by decide +kernel, rfl⟩
theorem dX7_lineNow_31 : zD cX7_lineNow 31 (.bipush 97) 2 33 := ⟨by decide +kernel, rfl⟩
theorem dX7_lineNow_33 : zD cX7_lineNow 33 (.bipush 105) 2 35 := ⟨by decide +kernel, rfl⟩
theorem dX7_lineNow_35 : zD cX7_lineNow 35 (.invokevirtual 86) 3 38 := ⟨by decide +kernel, rfl⟩
theorem dX7_lineNow_38 : zJ cX7_lineNow 38 (fun o => .ifCond .eq o) 53 41 := ⟨15, by decide +kernel, by decide, rfl⟩
theorem dX7_lineNow_41 : zD cX7_lineNow 41 (.aload_n 0) 1 42 := ⟨by decide +kernel, rfl⟩
theorem dX7_lineNow_42 : zD cX7_lineNow 42 (.bipush 110) 2 44 := ⟨by decide +kernel, rfl⟩
theorem dX7_lineNow_44 : zD cX7_lineNow 44 (.iconst 0) 1 45 := ⟨by decide +kernel, rfl⟩
theorem dX7_lineNow_45 : zD cX7_lineNow 45 (.invokevirtual 90) 3 48 := ⟨by decide +kernel, rfl⟩
theorem dX7_lineNow_48 : zJ cX7_lineNow 48 (fun o => .ifCond .eq o) 53 51 := ⟨5, by decide +kernel, by decide, rfl⟩
theorem dX7_lineNow_51 : zD cX7_lineNow 51 (.iconst 1) 1 52 := ⟨by decide +kernel, rfl⟩
theorem dX7_lineNow_52 : zD cX7_lineNow 52 (.ireturn) 1 53 := ⟨by decide +kernel, rfl⟩
theorem dX7_lineNow_53 : zD cX7_lineNow 53 (.aload_n 0) 1 54 := ⟨by decide +kernel, rfl⟩
theorem dX7_lineNow_54 : zD cX7_lineNow 54 (.iconst 3) 1 55 := ⟨by decide +kernel, rfl⟩
theorem dX7_lineNow_55 : zD cX7_lineNow 55 (.bipush 115) 2 57 := ⟨by decide +kernel, rfl⟩
theorem dX7_lineNow_57 : zD cX7_lineNow 57 (.bipush 104) 2 59 := ⟨by decide +kernel, rfl⟩
theorem dX7_lineNow_59 : zD cX7_lineNow 59 (.bipush 121) 2 61 := ⟨by decide +kernel, rfl⟩
theorem dX7_lineNow_61 : zD cX7_lineNow 61 (.invokevirtual 86) 3 64 := ⟨by decide +kernel, rfl⟩
theorem dX7_lineNow_64 : zJ cX7_lineNow 64 (fun o => .ifCond .eq o) 69 67 := ⟨5, by decide +kernel, by decide, rfl⟩
theorem dX7_lineNow_67 : zD cX7_lineNow 67 (.iconst 2) 1 68 := ⟨by decide +kernel, rfl⟩
theorem dX7_lineNow_68 : zD cX7_lineNow 68 (.ireturn) 1 69 := ⟨by decide +kernel, rfl⟩
theorem dX7_lineNow_69 : zD cX7_lineNow 69 (.aload_n 0) 1 70 := ⟨by decide +kernel, rfl⟩
theorem dX7_lineNow_70 : zD cX7_lineNow 70 (.iconst 4) 1 71 := ⟨by decide +kernel, rfl⟩
theorem dX7_lineNow_71 : zD cX7_lineNow 71 (.bipush 100) 2 73 := ⟨by decide +kernel, rfl⟩
theorem dX7_lineNow_73 : zD cX7_lineNow 73 (.bipush 101) 2 75 := ⟨by decide +kernel, rfl⟩
theorem dX7_lineNow_75 : zD cX7_lineNow 75 (.bipush 97) 2 77 := ⟨by decide +kernel, rfl⟩
theorem dX7_lineNow_77 : zD cX7_lineNow 77 (.invokevirtual 86) 3 80 := ⟨by decide +kernel, rfl⟩
theorem dX7_lineNow_80 : zJ cX7_lineNow 80 (fun o => .ifCond .eq o) 95 83 := ⟨15, by decide +kernel, by decide, rfl⟩
theorem dX7_lineNow_83 : zD cX7_lineNow 83 (.aload_n 0) 1 84 := ⟨by decide +kernel, rfl⟩
theorem dX7_lineNow_84 : zD cX7_lineNow 84 (.bipush 102) 2 86 := ⟨by decide +kernel, rfl⟩
theorem dX7_lineNow_86 : zD cX7_lineNow 86 (.iconst 0) 1 87 := ⟨by decide +kernel, rfl⟩
theorem dX7_lineNow_87 : zD cX7_lineNow 87 (.invokevirtual 90) 3 90 := ⟨by decide +kernel, rfl⟩
theorem dX7_lineNow_90 : zJ cX7_lineNow 90 (fun o => .ifCond .eq o) 95 93 := ⟨5, by decide +kernel, by decide, rfl⟩
theorem dX7_lineNow_93 : zD cX7_lineNow 93 (.iconst 3) 1 94 := ⟨by decide +kernel, rfl⟩
theorem dX7_lineNow_94 : zD cX7_lineNow 94 (.ireturn) 1 95 := ⟨by decide +kernel, rfl⟩
theorem dX7_lineNow_95 : zD cX7_lineNow 95 (.aload_n 0) 1 96 := ⟨by decide +kernel, rfl⟩
theorem dX7_lineNow_96 : zD cX7_lineNow 96 (.iconst 4) 1 97 := ⟨by decide +kernel, rfl⟩
theorem dX7_lineNow_97 : zD cX7_lineNow 97 (.bipush 98) 2 99 := ⟨by decide +kernel, rfl⟩
theorem dX7_lineNow_99 : zD cX7_lineNow 99 (.bipush 97) 2 101 := ⟨by decide +kernel, rfl⟩
theorem dX7_lineNow_101 : zD cX7_lineNow 101 (.bipush 110) 2 103 := ⟨by decide +kernel, rfl⟩
theorem dX7_lineNow_103 : zD cX7_lineNow 103 (.invokevirtual 86) 3 106 := ⟨by decide +kernel, rfl⟩
theorem dX7_lineNow_106 : zJ cX7_lineNow 106 (fun o => .ifCond .eq o) 123 109 := ⟨17, by decide +kernel, by decide, rfl⟩
theorem dX7_lineNow_109 : zD cX7_lineNow 109 (.aload_n 0) 1 110 := ⟨by decide +kernel, rfl⟩
theorem dX7_lineNow_110 : zD cX7_lineNow 110 (.bipush 100) 2 112 := ⟨by decide +kernel, rfl⟩
theorem dX7_lineNow_112 : zD cX7_lineNow 112 (.iconst 0) 1 113 := ⟨by decide +kernel, rfl⟩
theorem dX7_lineNow_113 : zD cX7_lineNow 113 (.invokevirtual 90) 3 116 := ⟨by decide +kernel, rfl⟩
theorem dX7_lineNow_116 : zJ cX7_lineNow 116 (fun o => .ifCond .eq o) 123 119 := ⟨7, by decide +kernel, by decide, rfl⟩
theorem dX7_lineNow_119 : zD cX7_lineNow 119 (.iconst 4) 1 120 := ⟨by decide +kernel, rfl⟩
theorem dX7_lineNow_120 : zG cX7_lineNow 120 153 := ⟨33, by decide +kernel, by decide⟩
theorem dX7_lineNow_123 : zD cX7_lineNow 123 (.aload_n 0) 1 124 := ⟨by decide +kernel, rfl⟩
theorem dX7_lineNow_124 : zD cX7_lineNow 124 (.iconst 4) 1 125 := ⟨by decide +kernel, rfl⟩
theorem dX7_lineNow_125 : zD cX7_lineNow 125 (.bipush 103) 2 127 := ⟨by decide +kernel, rfl⟩
theorem dX7_lineNow_127 : zD cX7_lineNow 127 (.bipush 108) 2 129 := ⟨by decide +kernel, rfl⟩
theorem dX7_lineNow_129 : zD cX7_lineNow 129 (.bipush 117) 2 131 := ⟨by decide +kernel, rfl⟩
theorem dX7_lineNow_131 : zD cX7_lineNow 131 (.invokevirtual 86) 3 134 := ⟨by decide +kernel, rfl⟩
theorem dX7_lineNow_134 : zJ cX7_lineNow 134 (fun o => .ifCond .eq o) 151 137 := ⟨17, by decide +kernel, by decide, rfl⟩
theorem dX7_lineNow_137 : zD cX7_lineNow 137 (.aload_n 0) 1 138 := ⟨by decide +kernel, rfl⟩
theorem dX7_lineNow_138 : zD cX7_lineNow 138 (.bipush 116) 2 140 := ⟨by decide +kernel, rfl⟩
theorem dX7_lineNow_140 : zD cX7_lineNow 140 (.iconst 0) 1 141 := ⟨by decide +kernel, rfl⟩
theorem dX7_lineNow_141 : zD cX7_lineNow 141 (.invokevirtual 90) 3 144 := ⟨by decide +kernel, rfl⟩
theorem dX7_lineNow_144 : zJ cX7_lineNow 144 (fun o => .ifCond .eq o) 151 147 := ⟨7, by decide +kernel, by decide, rfl⟩
theorem dX7_lineNow_147 : zD cX7_lineNow 147 (.iconst 5) 1 148 := ⟨by decide +kernel, rfl⟩
theorem dX7_lineNow_148 : zG cX7_lineNow 148 153 := ⟨5, by decide +kernel, by decide⟩
theorem dX7_lineNow_151 : zD cX7_lineNow 151 (.bipush (-4)) 2 153 := ⟨by decide +kernel, rfl⟩
theorem dX7_lineNow_153 : zD cX7_lineNow 153 (.ireturn) 1 154 := ⟨by decide +kernel, rfl⟩
theorem dX7_reads_0 : zD cX7_reads 0 (.aload_n 0) 1 1 := ⟨by decide +kernel, rfl⟩
theorem dX7_reads_1 : zD cX7_reads 1 (.getfield 70) 3 4 := ⟨by decide +kernel, rfl⟩
theorem dX7_reads_4 : zJ cX7_reads 4 (fun o => .ifCond .le o) 8 7 := ⟨4, by decide +kernel, by decide, rfl⟩
theorem dX7_reads_7 : zD cX7_reads 7 (.return_) 1 8 := ⟨by decide +kernel, rfl⟩
theorem dX7_reads_8 : zD cX7_reads 8 (.aload_n 0) 1 9 := ⟨by decide +kernel, rfl⟩
theorem dX7_reads_9 : zD cX7_reads 9 (.aload_n 0) 1 10 := ⟨by decide +kernel, rfl⟩
theorem dX7_reads_10 : zD cX7_reads 10 (.getfield 79) 3 13 := ⟨by decide +kernel, rfl⟩
theorem dX7_reads_13 : zD cX7_reads 13 (.invokevirtual 82) 3 16 := ⟨by decide +kernel, rfl⟩
theorem dX7_reads_16 : zD cX7_reads 16 (.bipush 32) 2 18 := ⟨by decide +kernel, rfl⟩
theorem dX7_reads_18 : zJ cX7_reads 18 (fun o => .if_icmp .ne o) 34 21 := ⟨16, by decide +kernel, by decide, rfl⟩
theorem dX7_reads_21 : zD cX7_reads 21 (.aload_n 0) 1 22 := ⟨by decide +kernel, rfl⟩
theorem dX7_reads_22 : zD cX7_reads 22 (.dup) 1 23 := ⟨by decide +kernel, rfl⟩
theorem dX7_reads_23 : zD cX7_reads 23 (.getfield 79) 3 26 := ⟨by decide +kernel, rfl⟩
theorem dX7_reads_26 : zD cX7_reads 26 (.iconst 1) 1 27 := ⟨by decide +kernel, rfl⟩
theorem dX7_reads_27 : zD cX7_reads 27 (.iadd) 1 28 := ⟨by decide +kernel, rfl⟩
theorem dX7_reads_28 : zD cX7_reads 28 (.putfield 79) 3 31 := ⟨by decide +kernel, rfl⟩
theorem dX7_reads_31 : zG cX7_reads 31 8 := ⟨(-23), by decide +kernel, by decide⟩
theorem dX7_reads_34 : zD cX7_reads 34 (.aload_n 0) 1 35 := ⟨by decide +kernel, rfl⟩
theorem dX7_reads_35 : zD cX7_reads 35 (.aload_n 0) 1 36 := ⟨by decide +kernel, rfl⟩
theorem dX7_reads_36 : zD cX7_reads 36 (.getfield 79) 3 39 := ⟨by decide +kernel, rfl⟩
theorem dX7_reads_39 : zD cX7_reads 39 (.putfield 73) 3 42 := ⟨by decide +kernel, rfl⟩
theorem dX7_reads_42 : zD cX7_reads 42 (.aload_n 0) 1 43 := ⟨by decide +kernel, rfl⟩
theorem dX7_reads_43 : zD cX7_reads 43 (.aload_n 0) 1 44 := ⟨by decide +kernel, rfl⟩
theorem dX7_reads_44 : zD cX7_reads 44 (.getfield 79) 3 47 := ⟨by decide +kernel, rfl⟩
theorem dX7_reads_47 : zD cX7_reads 47 (.invokevirtual 82) 3 50 := ⟨by decide +kernel, rfl⟩
theorem dX7_reads_50 : zD cX7_reads 50 (.istore_n 1) 1 51 := ⟨by decide +kernel, rfl⟩
theorem dX7_reads_51 : zD cX7_reads 51 (.iload_n 1) 1 52 := ⟨by decide +kernel, rfl⟩
theorem dX7_reads_52 : zJ cX7_reads 52 (fun o => .ifCond .ge o) 63 55 := ⟨11, by decide +kernel, by decide, rfl⟩
theorem dX7_reads_55 : zD cX7_reads 55 (.aload_n 0) 1 56 := ⟨by decide +kernel, rfl⟩
theorem dX7_reads_56 : zD cX7_reads 56 (.iconst 0) 1 57 := ⟨by decide +kernel, rfl⟩
theorem dX7_reads_57 : zD cX7_reads 57 (.putfield 94) 3 60 := ⟨by decide +kernel, rfl⟩
theorem dX7_reads_60 : zG cX7_reads 60 274 := ⟨214, by decide +kernel, by decide⟩
theorem dX7_reads_63 : zD cX7_reads 63 (.iload_n 1) 1 64 := ⟨by decide +kernel, rfl⟩
theorem dX7_reads_64 : zD cX7_reads 64 (.i2l) 1 65 := ⟨by decide +kernel, rfl⟩
theorem dX7_reads_65 : zD cX7_reads 65 (.ldc2_w 97) 3 68 := ⟨by decide +kernel, rfl⟩
theorem dX7_reads_68 : zD cX7_reads 68 (.ldc2_w 99) 3 71 := ⟨by decide +kernel, rfl⟩
theorem dX7_reads_71 : zD cX7_reads 71 (.invokestatic 63) 3 74 := ⟨by decide +kernel, rfl⟩
theorem dX7_reads_74 : zJ cX7_reads 74 (fun o => .ifCond .eq o) 116 77 := ⟨42, by decide +kernel, by decide, rfl⟩
theorem dX7_reads_77 : zD cX7_reads 77 (.aload_n 0) 1 78 := ⟨by decide +kernel, rfl⟩
theorem dX7_reads_78 : zD cX7_reads 78 (.iconst 1) 1 79 := ⟨by decide +kernel, rfl⟩
theorem dX7_reads_79 : zD cX7_reads 79 (.putfield 94) 3 82 := ⟨by decide +kernel, rfl⟩
theorem dX7_reads_82 : zD cX7_reads 82 (.aload_n 0) 1 83 := ⟨by decide +kernel, rfl⟩
theorem dX7_reads_83 : zD cX7_reads 83 (.aload_n 0) 1 84 := ⟨by decide +kernel, rfl⟩
theorem dX7_reads_84 : zD cX7_reads 84 (.getfield 79) 3 87 := ⟨by decide +kernel, rfl⟩
theorem dX7_reads_87 : zD cX7_reads 87 (.invokevirtual 82) 3 90 := ⟨by decide +kernel, rfl⟩
theorem dX7_reads_90 : zD cX7_reads 90 (.i2l) 1 91 := ⟨by decide +kernel, rfl⟩
theorem dX7_reads_91 : zD cX7_reads 91 (.ldc2_w 97) 3 94 := ⟨by decide +kernel, rfl⟩
theorem dX7_reads_94 : zD cX7_reads 94 (.ldc2_w 99) 3 97 := ⟨by decide +kernel, rfl⟩
theorem dX7_reads_97 : zD cX7_reads 97 (.invokestatic 63) 3 100 := ⟨by decide +kernel, rfl⟩
theorem dX7_reads_100 : zJ cX7_reads 100 (fun o => .ifCond .eq o) 274 103 := ⟨174, by decide +kernel, by decide, rfl⟩
theorem dX7_reads_103 : zD cX7_reads 103 (.aload_n 0) 1 104 := ⟨by decide +kernel, rfl⟩
theorem dX7_reads_104 : zD cX7_reads 104 (.dup) 1 105 := ⟨by decide +kernel, rfl⟩
theorem dX7_reads_105 : zD cX7_reads 105 (.getfield 79) 3 108 := ⟨by decide +kernel, rfl⟩
theorem dX7_reads_108 : zD cX7_reads 108 (.iconst 1) 1 109 := ⟨by decide +kernel, rfl⟩
theorem dX7_reads_109 : zD cX7_reads 109 (.iadd) 1 110 := ⟨by decide +kernel, rfl⟩
theorem dX7_reads_110 : zD cX7_reads 110 (.putfield 79) 3 113 := ⟨by decide +kernel, rfl⟩
theorem dX7_reads_113 : zG cX7_reads 113 82 := ⟨(-31), by decide +kernel, by decide⟩
theorem dX7_reads_116 : zD cX7_reads 116 (.iload_n 1) 1 117 := ⟨by decide +kernel, rfl⟩
theorem dX7_reads_117 : zD cX7_reads 117 (.i2l) 1 118 := ⟨by decide +kernel, rfl⟩
theorem dX7_reads_118 : zD cX7_reads 118 (.ldc2_w 101) 3 121 := ⟨by decide +kernel, rfl⟩
theorem dX7_reads_121 : zD cX7_reads 121 (.ldc2_w 103) 3 124 := ⟨by decide +kernel, rfl⟩
theorem dX7_reads_124 : zD cX7_reads 124 (.invokestatic 63) 3 127 := ⟨by decide +kernel, rfl⟩
theorem dX7_reads_127 : zJ cX7_reads 127 (fun o => .ifCond .eq o) 243 130 := ⟨116, by decide +kernel, by decide, rfl⟩
theorem dX7_reads_130 : zD cX7_reads 130 (.aload_n 0) 1 131 := ⟨by decide +kernel, rfl⟩
theorem dX7_reads_131 : zD cX7_reads 131 (.iconst 2) 1 132 := ⟨by decide +kernel, rfl⟩
theorem dX7_reads_132 : zD cX7_reads 132 (.putfield 94) 3 135 := ⟨by decide +kernel, rfl⟩
theorem dX7_reads_135 : zD cX7_reads 135 (.aload_n 0) 1 136 := ⟨by decide +kernel, rfl⟩
theorem dX7_reads_136 : zD cX7_reads 136 (.iconst 0) 1 137 := ⟨by decide +kernel, rfl⟩
theorem dX7_reads_137 : zD cX7_reads 137 (.putfield 105) 3 140 := ⟨by decide +kernel, rfl⟩
theorem dX7_reads_140 : zD cX7_reads 140 (.aload_n 0) 1 141 := ⟨by decide +kernel, rfl⟩
theorem dX7_reads_141 : zD cX7_reads 141 (.aload_n 0) 1 142 := ⟨by decide +kernel, rfl⟩
theorem dX7_reads_142 : zD cX7_reads 142 (.getfield 79) 3 145 := ⟨by decide +kernel, rfl⟩
theorem dX7_reads_145 : zD cX7_reads 145 (.invokevirtual 82) 3 148 := ⟨by decide +kernel, rfl⟩
theorem dX7_reads_148 : zD cX7_reads 148 (.i2l) 1 149 := ⟨by decide +kernel, rfl⟩
theorem dX7_reads_149 : zD cX7_reads 149 (.ldc2_w 101) 3 152 := ⟨by decide +kernel, rfl⟩
theorem dX7_reads_152 : zD cX7_reads 152 (.ldc2_w 103) 3 155 := ⟨by decide +kernel, rfl⟩
theorem dX7_reads_155 : zD cX7_reads 155 (.invokestatic 63) 3 158 := ⟨by decide +kernel, rfl⟩
theorem dX7_reads_158 : zJ cX7_reads 158 (fun o => .ifCond .eq o) 217 161 := ⟨59, by decide +kernel, by decide, rfl⟩
theorem dX7_reads_161 : zD cX7_reads 161 (.aload_n 0) 1 162 := ⟨by decide +kernel, rfl⟩
theorem dX7_reads_162 : zD cX7_reads 162 (.aload_n 0) 1 163 := ⟨by decide +kernel, rfl⟩
theorem dX7_reads_163 : zD cX7_reads 163 (.getfield 79) 3 166 := ⟨by decide +kernel, rfl⟩
theorem dX7_reads_166 : zD cX7_reads 166 (.aload_n 0) 1 167 := ⟨by decide +kernel, rfl⟩
theorem dX7_reads_167 : zD cX7_reads 167 (.getfield 73) 3 170 := ⟨by decide +kernel, rfl⟩
theorem dX7_reads_170 : zD cX7_reads 170 (.isub) 1 171 := ⟨by decide +kernel, rfl⟩
theorem dX7_reads_171 : zD cX7_reads 171 (.iconst 2) 1 172 := ⟨by decide +kernel, rfl⟩
theorem dX7_reads_172 : zJ cX7_reads 172 (fun o => .if_icmp .ge o) 197 175 := ⟨25, by decide +kernel, by decide, rfl⟩
theorem dX7_reads_175 : zD cX7_reads 175 (.bipush 10) 2 177 := ⟨by decide +kernel, rfl⟩
theorem dX7_reads_177 : zD cX7_reads 177 (.aload_n 0) 1 178 := ⟨by decide +kernel, rfl⟩
theorem dX7_reads_178 : zD cX7_reads 178 (.getfield 105) 3 181 := ⟨by decide +kernel, rfl⟩
theorem dX7_reads_181 : zD cX7_reads 181 (.imul) 1 182 := ⟨by decide +kernel, rfl⟩
theorem dX7_reads_182 : zD cX7_reads 182 (.aload_n 0) 1 183 := ⟨by decide +kernel, rfl⟩
theorem dX7_reads_183 : zD cX7_reads 183 (.aload_n 0) 1 184 := ⟨by decide +kernel, rfl⟩
theorem dX7_reads_184 : zD cX7_reads 184 (.getfield 79) 3 187 := ⟨by decide +kernel, rfl⟩
theorem dX7_reads_187 : zD cX7_reads 187 (.invokevirtual 82) 3 190 := ⟨by decide +kernel, rfl⟩
theorem dX7_reads_190 : zD cX7_reads 190 (.iadd) 1 191 := ⟨by decide +kernel, rfl⟩
theorem dX7_reads_191 : zD cX7_reads 191 (.bipush 48) 2 193 := ⟨by decide +kernel, rfl⟩
theorem dX7_reads_193 : zD cX7_reads 193 (.isub) 1 194 := ⟨by decide +kernel, rfl⟩
theorem dX7_reads_194 : zG cX7_reads 194 201 := ⟨7, by decide +kernel, by decide⟩
theorem dX7_reads_197 : zD cX7_reads 197 (.aload_n 0) 1 198 := ⟨by decide +kernel, rfl⟩
theorem dX7_reads_198 : zD cX7_reads 198 (.getfield 105) 3 201 := ⟨by decide +kernel, rfl⟩
theorem dX7_reads_201 : zD cX7_reads 201 (.putfield 105) 3 204 := ⟨by decide +kernel, rfl⟩
theorem dX7_reads_204 : zD cX7_reads 204 (.aload_n 0) 1 205 := ⟨by decide +kernel, rfl⟩
theorem dX7_reads_205 : zD cX7_reads 205 (.dup) 1 206 := ⟨by decide +kernel, rfl⟩
theorem dX7_reads_206 : zD cX7_reads 206 (.getfield 79) 3 209 := ⟨by decide +kernel, rfl⟩
theorem dX7_reads_209 : zD cX7_reads 209 (.iconst 1) 1 210 := ⟨by decide +kernel, rfl⟩
theorem dX7_reads_210 : zD cX7_reads 210 (.iadd) 1 211 := ⟨by decide +kernel, rfl⟩
theorem dX7_reads_211 : zD cX7_reads 211 (.putfield 79) 3 214 := ⟨by decide +kernel, rfl⟩
theorem dX7_reads_214 : zG cX7_reads 214 140 := ⟨(-74), by decide +kernel, by decide⟩
theorem dX7_reads_217 : zD cX7_reads 217 (.aload_n 0) 1 218 := ⟨by decide +kernel, rfl⟩
theorem dX7_reads_218 : zD cX7_reads 218 (.aload_n 0) 1 219 := ⟨by decide +kernel, rfl⟩
theorem dX7_reads_219 : zD cX7_reads 219 (.getfield 79) 3 222 := ⟨by decide +kernel, rfl⟩
theorem dX7_reads_222 : zD cX7_reads 222 (.aload_n 0) 1 223 := ⟨by decide +kernel, rfl⟩
theorem dX7_reads_223 : zD cX7_reads 223 (.getfield 73) 3 226 := ⟨by decide +kernel, rfl⟩
theorem dX7_reads_226 : zD cX7_reads 226 (.isub) 1 227 := ⟨by decide +kernel, rfl⟩
theorem dX7_reads_227 : zD cX7_reads 227 (.iconst 2) 1 228 := ⟨by decide +kernel, rfl⟩
theorem dX7_reads_228 : zJ cX7_reads 228 (fun o => .if_icmp .gt o) 235 231 := ⟨7, by decide +kernel, by decide, rfl⟩
theorem dX7_reads_231 : zD cX7_reads 231 (.iconst 1) 1 232 := ⟨by decide +kernel, rfl⟩
theorem dX7_reads_232 : zG cX7_reads 232 236 := ⟨4, by decide +kernel, by decide⟩
theorem dX7_reads_235 : zD cX7_reads 235 (.iconst 0) 1 236 := ⟨by decide +kernel, rfl⟩
theorem dX7_reads_236 : zD cX7_reads 236 (.iconst 1) 1 237 := ⟨by decide +kernel, rfl⟩
theorem dX7_reads_237 : zD cX7_reads 237 (.invokevirtual 108) 3 240 := ⟨by decide +kernel, rfl⟩
theorem dX7_reads_240 : zG cX7_reads 240 274 := ⟨34, by decide +kernel, by decide⟩
theorem dX7_reads_243 : zD cX7_reads 243 (.aload_n 0) 1 244 := ⟨by decide +kernel, rfl⟩
theorem dX7_reads_244 : zD cX7_reads 244 (.iconst 3) 1 245 := ⟨by decide +kernel, rfl⟩
theorem dX7_reads_245 : zD cX7_reads 245 (.putfield 94) 3 248 := ⟨by decide +kernel, rfl⟩
theorem dX7_reads_248 : zD cX7_reads 248 (.aload_n 0) 1 249 := ⟨by decide +kernel, rfl⟩
theorem dX7_reads_249 : zD cX7_reads 249 (.iload_n 1) 1 250 := ⟨by decide +kernel, rfl⟩
theorem dX7_reads_250 : zD cX7_reads 250 (.bipush 59) 2 252 := ⟨by decide +kernel, rfl⟩
theorem dX7_reads_252 : zJ cX7_reads 252 (fun o => .if_icmp .ne o) 259 255 := ⟨7, by decide +kernel, by decide, rfl⟩
theorem dX7_reads_255 : zD cX7_reads 255 (.iconst 1) 1 256 := ⟨by decide +kernel, rfl⟩
theorem dX7_reads_256 : zG cX7_reads 256 260 := ⟨4, by decide +kernel, by decide⟩
theorem dX7_reads_259 : zD cX7_reads 259 (.iconst 0) 1 260 := ⟨by decide +kernel, rfl⟩
theorem dX7_reads_260 : zD cX7_reads 260 (.iconst 1) 1 261 := ⟨by decide +kernel, rfl⟩
theorem dX7_reads_261 : zD cX7_reads 261 (.invokevirtual 108) 3 264 := ⟨by decide +kernel, rfl⟩
theorem dX7_reads_264 : zD cX7_reads 264 (.aload_n 0) 1 265 := ⟨by decide +kernel, rfl⟩
theorem dX7_reads_265 : zD cX7_reads 265 (.dup) 1 266 := ⟨by decide +kernel, rfl⟩
theorem dX7_reads_266 : zD cX7_reads 266 (.getfield 79) 3 269 := ⟨by decide +kernel, rfl⟩
theorem dX7_reads_269 : zD cX7_reads 269 (.iconst 1) 1 270 := ⟨by decide +kernel, rfl⟩
theorem dX7_reads_270 : zD cX7_reads 270 (.iadd) 1 271 := ⟨by decide +kernel, rfl⟩
theorem dX7_reads_271 : zD cX7_reads 271 (.putfield 79) 3 274 := ⟨by decide +kernel, rfl⟩
theorem dX7_reads_274 : zD cX7_reads 274 (.return_) 1 275 := ⟨by decide +kernel, rfl⟩
theorem dX7_readNumber_0 : zD cX7_readNumber 0 (.aload_n 0) 1 1 := ⟨by decide +kernel, rfl⟩
theorem dX7_readNumber_1 : zD cX7_readNumber 1 (.getfield 70) 3 4 := ⟨by decide +kernel, rfl⟩
theorem dX7_readNumber_4 : zJ cX7_readNumber 4 (fun o => .ifCond .ne o) 25 7 := ⟨21, by decide +kernel, by decide, rfl⟩
theorem dX7_readNumber_7 : zD cX7_readNumber 7 (.aload_n 0) 1 8 := ⟨by decide +kernel, rfl⟩
theorem dX7_readNumber_8 : zD cX7_readNumber 8 (.aload_n 0) 1 9 := ⟨by decide +kernel, rfl⟩
theorem dX7_readNumber_9 : zD cX7_readNumber 9 (.getfield 94) 3 12 := ⟨by decide +kernel, rfl⟩
theorem dX7_readNumber_12 : zD cX7_readNumber 12 (.iconst 2) 1 13 := ⟨by decide +kernel, rfl⟩
theorem dX7_readNumber_13 : zJ cX7_readNumber 13 (fun o => .if_icmp .ne o) 20 16 := ⟨7, by decide +kernel, by decide, rfl⟩
theorem dX7_readNumber_16 : zD cX7_readNumber 16 (.iconst 1) 1 17 := ⟨by decide +kernel, rfl⟩
theorem dX7_readNumber_17 : zG cX7_readNumber 17 21 := ⟨4, by decide +kernel, by decide⟩
theorem dX7_readNumber_20 : zD cX7_readNumber 20 (.iconst 0) 1 21 := ⟨by decide +kernel, rfl⟩
theorem dX7_readNumber_21 : zD cX7_readNumber 21 (.iconst 2) 1 22 := ⟨by decide +kernel, rfl⟩
theorem dX7_readNumber_22 : zD cX7_readNumber 22 (.invokevirtual 108) 3 25 := ⟨by decide +kernel, rfl⟩
theorem dX7_readNumber_25 : zD cX7_readNumber 25 (.aload_n 0) 1 26 := ⟨by decide +kernel, rfl⟩
theorem dX7_readNumber_26 : zD cX7_readNumber 26 (.getfield 70) 3 29 := ⟨by decide +kernel, rfl⟩
theorem dX7_readNumber_29 : zJ cX7_readNumber 29 (fun o => .ifCond .ne o) 49 32 := ⟨20, by decide +kernel, by decide, rfl⟩
theorem dX7_readNumber_32 : zD cX7_readNumber 32 (.aload_n 0) 1 33 := ⟨by decide +kernel, rfl⟩
theorem dX7_readNumber_33 : zD cX7_readNumber 33 (.aload_n 0) 1 34 := ⟨by decide +kernel, rfl⟩
theorem dX7_readNumber_34 : zD cX7_readNumber 34 (.getfield 105) 3 37 := ⟨by decide +kernel, rfl⟩
theorem dX7_readNumber_37 : zD cX7_readNumber 37 (.i2l) 1 38 := ⟨by decide +kernel, rfl⟩
theorem dX7_readNumber_38 : zD cX7_readNumber 38 (.iload_n 1) 1 39 := ⟨by decide +kernel, rfl⟩
theorem dX7_readNumber_39 : zD cX7_readNumber 39 (.i2l) 1 40 := ⟨by decide +kernel, rfl⟩
theorem dX7_readNumber_40 : zD cX7_readNumber 40 (.iload_n 2) 1 41 := ⟨by decide +kernel, rfl⟩
theorem dX7_readNumber_41 : zD cX7_readNumber 41 (.i2l) 1 42 := ⟨by decide +kernel, rfl⟩
theorem dX7_readNumber_42 : zD cX7_readNumber 42 (.invokestatic 63) 3 45 := ⟨by decide +kernel, rfl⟩
theorem dX7_readNumber_45 : zD cX7_readNumber 45 (.iconst 3) 1 46 := ⟨by decide +kernel, rfl⟩
theorem dX7_readNumber_46 : zD cX7_readNumber 46 (.invokevirtual 108) 3 49 := ⟨by decide +kernel, rfl⟩
theorem dX7_readNumber_49 : zD cX7_readNumber 49 (.aload_n 0) 1 50 := ⟨by decide +kernel, rfl⟩
theorem dX7_readNumber_50 : zD cX7_readNumber 50 (.getfield 70) 3 53 := ⟨by decide +kernel, rfl⟩
theorem dX7_readNumber_53 : zJ cX7_readNumber 53 (fun o => .ifCond .ne o) 63 56 := ⟨10, by decide +kernel, by decide, rfl⟩
theorem dX7_readNumber_56 : zD cX7_readNumber 56 (.aload_n 0) 1 57 := ⟨by decide +kernel, rfl⟩
theorem dX7_readNumber_57 : zD cX7_readNumber 57 (.getfield 105) 3 60 := ⟨by decide +kernel, rfl⟩
theorem dX7_readNumber_60 : zG cX7_readNumber 60 64 := ⟨4, by decide +kernel, by decide⟩
theorem dX7_readNumber_63 : zD cX7_readNumber 63 (.iconst 0) 1 64 := ⟨by decide +kernel, rfl⟩
theorem dX7_readNumber_64 : zD cX7_readNumber 64 (.istore_n 3) 1 65 := ⟨by decide +kernel, rfl⟩
theorem dX7_readNumber_65 : zD cX7_readNumber 65 (.aload_n 0) 1 66 := ⟨by decide +kernel, rfl⟩
theorem dX7_readNumber_66 : zD cX7_readNumber 66 (.invokevirtual 112) 3 69 := ⟨by decide +kernel, rfl⟩
theorem dX7_readNumber_69 : zD cX7_readNumber 69 (.iload_n 3) 1 70 := ⟨by decide +kernel, rfl⟩
theorem dX7_readNumber_70 : zD cX7_readNumber 70 (.ireturn) 1 71 := ⟨by decide +kernel, rfl⟩
theorem dX7_readBand_0 : zD cX7_readBand 0 (.bipush 19) 2 2 := ⟨by decide +kernel, rfl⟩
theorem dX7_readBand_2 : zD cX7_readBand 2 (.iconst 2) 1 3 := ⟨by decide +kernel, rfl⟩
theorem dX7_readBand_3 : zD cX7_readBand 3 (.aload_n 0) 1 4 := ⟨by decide +kernel, rfl⟩
theorem dX7_readBand_4 : zD cX7_readBand 4 (.getfield 20) 3 7 := ⟨by decide +kernel, rfl⟩
theorem dX7_readBand_7 : zD cX7_readBand 7 (.bipush 27) 2 9 := ⟨by decide +kernel, rfl⟩
theorem dX7_readBand_9 : zD cX7_readBand 9 (.iaload) 1 10 := ⟨by decide +kernel, rfl⟩
theorem dX7_readBand_10 : zD cX7_readBand 10 (.imul) 1 11 := ⟨by decide +kernel, rfl⟩
theorem dX7_readBand_11 : zD cX7_readBand 11 (.iadd) 1 12 := ⟨by decide +kernel, rfl⟩
theorem dX7_readBand_12 : zD cX7_readBand 12 (.istore_n 1) 1 13 := ⟨by decide +kernel, rfl⟩
theorem dX7_readBand_13 : zD cX7_readBand 13 (.aload_n 0) 1 14 := ⟨by decide +kernel, rfl⟩
theorem dX7_readBand_14 : zD cX7_readBand 14 (.getfield 20) 3 17 := ⟨by decide +kernel, rfl⟩
theorem dX7_readBand_17 : zD cX7_readBand 17 (.iload_n 1) 1 18 := ⟨by decide +kernel, rfl⟩
theorem dX7_readBand_18 : zD cX7_readBand 18 (.iconst 0) 1 19 := ⟨by decide +kernel, rfl⟩
theorem dX7_readBand_19 : zD cX7_readBand 19 (.iadd) 1 20 := ⟨by decide +kernel, rfl⟩
theorem dX7_readBand_20 : zD cX7_readBand 20 (.aload_n 0) 1 21 := ⟨by decide +kernel, rfl⟩
theorem dX7_readBand_21 : zD cX7_readBand 21 (.iconst 0) 1 22 := ⟨by decide +kernel, rfl⟩
theorem dX7_readBand_22 : zD cX7_readBand 22 (.iconst 5) 1 23 := ⟨by decide +kernel, rfl⟩
theorem dX7_readBand_23 : zD cX7_readBand 23 (.invokevirtual 115) 3 26 := ⟨by decide +kernel, rfl⟩
theorem dX7_readBand_26 : zD cX7_readBand 26 (.iastore) 1 27 := ⟨by decide +kernel, rfl⟩
theorem dX7_readBand_27 : zD cX7_readBand 27 (.aload_n 0) 1 28 := ⟨by decide +kernel, rfl⟩
theorem dX7_readBand_28 : zD cX7_readBand 28 (.aload_n 0) 1 29 := ⟨by decide +kernel, rfl⟩
theorem dX7_readBand_29 : zD cX7_readBand 29 (.getfield 20) 3 32 := ⟨by decide +kernel, rfl⟩
theorem dX7_readBand_32 : zD cX7_readBand 32 (.iload_n 1) 1 33 := ⟨by decide +kernel, rfl⟩
theorem dX7_readBand_33 : zD cX7_readBand 33 (.iconst 0) 1 34 := ⟨by decide +kernel, rfl⟩
theorem dX7_readBand_34 : zD cX7_readBand 34 (.iadd) 1 35 := ⟨by decide +kernel, rfl⟩
theorem dX7_readBand_35 : zD cX7_readBand 35 (.iaload) 1 36 := ⟨by decide +kernel, rfl⟩
theorem dX7_readBand_36 : zD cX7_readBand 36 (.aload_n 0) 1 37 := ⟨by decide +kernel, rfl⟩
theorem dX7_readBand_37 : zD cX7_readBand 37 (.getfield 57) 3 40 := ⟨by decide +kernel, rfl⟩
theorem dX7_readBand_40 : zJ cX7_readBand 40 (fun o => .if_icmp .le o) 54 43 := ⟨14, by decide +kernel, by decide, rfl⟩
theorem dX7_readBand_43 : zD cX7_readBand 43 (.aload_n 0) 1 44 := ⟨by decide +kernel, rfl⟩
theorem dX7_readBand_44 : zD cX7_readBand 44 (.getfield 20) 3 47 := ⟨by decide +kernel, rfl⟩
theorem dX7_readBand_47 : zD cX7_readBand 47 (.iload_n 1) 1 48 := ⟨by decide +kernel, rfl⟩
theorem dX7_readBand_48 : zD cX7_readBand 48 (.iconst 0) 1 49 := ⟨by decide +kernel, rfl⟩
theorem dX7_readBand_49 : zD cX7_readBand 49 (.iadd) 1 50 := ⟨by decide +kernel, rfl⟩
theorem dX7_readBand_50 : zD cX7_readBand 50 (.iaload) 1 51 := ⟨by decide +kernel, rfl⟩
theorem dX7_readBand_51 : zG cX7_readBand 51 58 := ⟨7, by decide +kernel, by decide⟩
theorem dX7_readBand_54 : zD cX7_readBand 54 (.aload_n 0) 1 55 := ⟨by decide +kernel, rfl⟩
theorem dX7_readBand_55 : zD cX7_readBand 55 (.getfield 57) 3 58 := ⟨by decide +kernel, rfl⟩
theorem dX7_readBand_58 : zD cX7_readBand 58 (.putfield 57) 3 61 := ⟨by decide +kernel, rfl⟩
theorem dX7_readBand_61 : zD cX7_readBand 61 (.aload_n 0) 1 62 := ⟨by decide +kernel, rfl⟩
theorem dX7_readBand_62 : zD cX7_readBand 62 (.getfield 20) 3 65 := ⟨by decide +kernel, rfl⟩
theorem dX7_readBand_65 : zD cX7_readBand 65 (.iload_n 1) 1 66 := ⟨by decide +kernel, rfl⟩
theorem dX7_readBand_66 : zD cX7_readBand 66 (.iconst 1) 1 67 := ⟨by decide +kernel, rfl⟩
theorem dX7_readBand_67 : zD cX7_readBand 67 (.iadd) 1 68 := ⟨by decide +kernel, rfl⟩
theorem dX7_readBand_68 : zD cX7_readBand 68 (.aload_n 0) 1 69 := ⟨by decide +kernel, rfl⟩
theorem dX7_readBand_69 : zD cX7_readBand 69 (.iconst 1) 1 70 := ⟨by decide +kernel, rfl⟩
theorem dX7_readBand_70 : zD cX7_readBand 70 (.bipush 9) 2 72 := ⟨by decide +kernel, rfl⟩
theorem dX7_readBand_72 : zD cX7_readBand 72 (.invokevirtual 115) 3 75 := ⟨by decide +kernel, rfl⟩
theorem dX7_readBand_75 : zD cX7_readBand 75 (.iastore) 1 76 := ⟨by decide +kernel, rfl⟩
theorem dX7_readBand_76 : zD cX7_readBand 76 (.aload_n 0) 1 77 := ⟨by decide +kernel, rfl⟩
theorem dX7_readBand_77 : zD cX7_readBand 77 (.getfield 20) 3 80 := ⟨by decide +kernel, rfl⟩
theorem dX7_readBand_80 : zD cX7_readBand 80 (.bipush 27) 2 82 := ⟨by decide +kernel, rfl⟩
theorem dX7_readBand_82 : zD cX7_readBand 82 (.dup2) 1 83 := ⟨by decide +kernel, rfl⟩
theorem dX7_readBand_83 : zD cX7_readBand 83 (.iaload) 1 84 := ⟨by decide +kernel, rfl⟩
theorem dX7_readBand_84 : zD cX7_readBand 84 (.iconst 1) 1 85 := ⟨by decide +kernel, rfl⟩
theorem dX7_readBand_85 : zD cX7_readBand 85 (.iadd) 1 86 := ⟨by decide +kernel, rfl⟩
theorem dX7_readBand_86 : zD cX7_readBand 86 (.iastore) 1 87 := ⟨by decide +kernel, rfl⟩
theorem dX7_readBand_87 : zD cX7_readBand 87 (.return_) 1 88 := ⟨by decide +kernel, rfl⟩
theorem dX7_readLineOf_0 : zD cX7_readLineOf 0 (.iload_n 1) 1 1 := ⟨by decide +kernel, rfl⟩
theorem dX7_readLineOf_1 : zD cX7_readLineOf 1 (.lookupswitch 51 #[(4, 27), (5, 34)]) 27 28 := ⟨by decide +kernel, rfl⟩
theorem dX7_readLineOf_28 : zD cX7_readLineOf 28 (.aload_n 0) 1 29 := ⟨by decide +kernel, rfl⟩
theorem dX7_readLineOf_29 : zD cX7_readLineOf 29 (.invokevirtual 119) 3 32 := ⟨by decide +kernel, rfl⟩
theorem dX7_readLineOf_32 : zG cX7_readLineOf 32 126 := ⟨94, by decide +kernel, by decide⟩
theorem dX7_readLineOf_35 : zD cX7_readLineOf 35 (.aload_n 0) 1 36 := ⟨by decide +kernel, rfl⟩
theorem dX7_readLineOf_36 : zD cX7_readLineOf 36 (.getfield 20) 3 39 := ⟨by decide +kernel, rfl⟩
theorem dX7_readLineOf_39 : zD cX7_readLineOf 39 (.bipush 28) 2 41 := ⟨by decide +kernel, rfl⟩
theorem dX7_readLineOf_41 : zD cX7_readLineOf 41 (.aload_n 0) 1 42 := ⟨by decide +kernel, rfl⟩
theorem dX7_readLineOf_42 : zD cX7_readLineOf 42 (.iconst 1) 1 43 := ⟨by decide +kernel, rfl⟩
theorem dX7_readLineOf_43 : zD cX7_readLineOf 43 (.bipush 99) 2 45 := ⟨by decide +kernel, rfl⟩
theorem dX7_readLineOf_45 : zD cX7_readLineOf 45 (.invokevirtual 115) 3 48 := ⟨by decide +kernel, rfl⟩
theorem dX7_readLineOf_48 : zD cX7_readLineOf 48 (.iastore) 1 49 := ⟨by decide +kernel, rfl⟩
theorem dX7_readLineOf_49 : zG cX7_readLineOf 49 126 := ⟨77, by decide +kernel, by decide⟩
theorem dX7_readLineOf_52 : zD cX7_readLineOf 52 (.aload_n 0) 1 53 := ⟨by decide +kernel, rfl⟩
theorem dX7_readLineOf_53 : zD cX7_readLineOf 53 (.getfield 20) 3 56 := ⟨by decide +kernel, rfl⟩
theorem dX7_readLineOf_56 : zD cX7_readLineOf 56 (.iconst 3) 1 57 := ⟨by decide +kernel, rfl⟩
theorem dX7_readLineOf_57 : zD cX7_readLineOf 57 (.aload_n 0) 1 58 := ⟨by decide +kernel, rfl⟩
theorem dX7_readLineOf_58 : zD cX7_readLineOf 58 (.getfield 20) 3 61 := ⟨by decide +kernel, rfl⟩
theorem dX7_readLineOf_61 : zD cX7_readLineOf 61 (.bipush 18) 2 63 := ⟨by decide +kernel, rfl⟩
theorem dX7_readLineOf_63 : zD cX7_readLineOf 63 (.iaload) 1 64 := ⟨by decide +kernel, rfl⟩
theorem dX7_readLineOf_64 : zD cX7_readLineOf 64 (.imul) 1 65 := ⟨by decide +kernel, rfl⟩
theorem dX7_readLineOf_65 : zD cX7_readLineOf 65 (.iconst 0) 1 66 := ⟨by decide +kernel, rfl⟩
theorem dX7_readLineOf_66 : zD cX7_readLineOf 66 (.iadd) 1 67 := ⟨by decide +kernel, rfl⟩
theorem dX7_readLineOf_67 : zD cX7_readLineOf 67 (.iload_n 1) 1 68 := ⟨by decide +kernel, rfl⟩
theorem dX7_readLineOf_68 : zD cX7_readLineOf 68 (.iastore) 1 69 := ⟨by decide +kernel, rfl⟩
theorem dX7_readLineOf_69 : zD cX7_readLineOf 69 (.aload_n 0) 1 70 := ⟨by decide +kernel, rfl⟩
theorem dX7_readLineOf_70 : zD cX7_readLineOf 70 (.getfield 20) 3 73 := ⟨by decide +kernel, rfl⟩
theorem dX7_readLineOf_73 : zD cX7_readLineOf 73 (.iconst 3) 1 74 := ⟨by decide +kernel, rfl⟩
theorem dX7_readLineOf_74 : zD cX7_readLineOf 74 (.aload_n 0) 1 75 := ⟨by decide +kernel, rfl⟩
theorem dX7_readLineOf_75 : zD cX7_readLineOf 75 (.getfield 20) 3 78 := ⟨by decide +kernel, rfl⟩
theorem dX7_readLineOf_78 : zD cX7_readLineOf 78 (.bipush 18) 2 80 := ⟨by decide +kernel, rfl⟩
theorem dX7_readLineOf_80 : zD cX7_readLineOf 80 (.iaload) 1 81 := ⟨by decide +kernel, rfl⟩
theorem dX7_readLineOf_81 : zD cX7_readLineOf 81 (.imul) 1 82 := ⟨by decide +kernel, rfl⟩
theorem dX7_readLineOf_82 : zD cX7_readLineOf 82 (.iconst 1) 1 83 := ⟨by decide +kernel, rfl⟩
theorem dX7_readLineOf_83 : zD cX7_readLineOf 83 (.iadd) 1 84 := ⟨by decide +kernel, rfl⟩
theorem dX7_readLineOf_84 : zD cX7_readLineOf 84 (.aload_n 0) 1 85 := ⟨by decide +kernel, rfl⟩
theorem dX7_readLineOf_85 : zD cX7_readLineOf 85 (.iconst 0) 1 86 := ⟨by decide +kernel, rfl⟩
theorem dX7_readLineOf_86 : zD cX7_readLineOf 86 (.bipush 99) 2 88 := ⟨by decide +kernel, rfl⟩
theorem dX7_readLineOf_88 : zD cX7_readLineOf 88 (.invokevirtual 115) 3 91 := ⟨by decide +kernel, rfl⟩
theorem dX7_readLineOf_91 : zD cX7_readLineOf 91 (.iastore) 1 92 := ⟨by decide +kernel, rfl⟩
theorem dX7_readLineOf_92 : zD cX7_readLineOf 92 (.aload_n 0) 1 93 := ⟨by decide +kernel, rfl⟩
theorem dX7_readLineOf_93 : zD cX7_readLineOf 93 (.getfield 20) 3 96 := ⟨by decide +kernel, rfl⟩
theorem dX7_readLineOf_96 : zD cX7_readLineOf 96 (.iconst 3) 1 97 := ⟨by decide +kernel, rfl⟩
theorem dX7_readLineOf_97 : zD cX7_readLineOf 97 (.aload_n 0) 1 98 := ⟨by decide +kernel, rfl⟩
theorem dX7_readLineOf_98 : zD cX7_readLineOf 98 (.getfield 20) 3 101 := ⟨by decide +kernel, rfl⟩
theorem dX7_readLineOf_101 : zD cX7_readLineOf 101 (.bipush 18) 2 103 := ⟨by decide +kernel, rfl⟩
theorem dX7_readLineOf_103 : zD cX7_readLineOf 103 (.iaload) 1 104 := ⟨by decide +kernel, rfl⟩
theorem dX7_readLineOf_104 : zD cX7_readLineOf 104 (.imul) 1 105 := ⟨by decide +kernel, rfl⟩
theorem dX7_readLineOf_105 : zD cX7_readLineOf 105 (.iconst 2) 1 106 := ⟨by decide +kernel, rfl⟩
theorem dX7_readLineOf_106 : zD cX7_readLineOf 106 (.iadd) 1 107 := ⟨by decide +kernel, rfl⟩
theorem dX7_readLineOf_107 : zD cX7_readLineOf 107 (.aload_n 0) 1 108 := ⟨by decide +kernel, rfl⟩
theorem dX7_readLineOf_108 : zD cX7_readLineOf 108 (.iconst 0) 1 109 := ⟨by decide +kernel, rfl⟩
theorem dX7_readLineOf_109 : zD cX7_readLineOf 109 (.bipush 9) 2 111 := ⟨by decide +kernel, rfl⟩
theorem dX7_readLineOf_111 : zD cX7_readLineOf 111 (.invokevirtual 115) 3 114 := ⟨by decide +kernel, rfl⟩
theorem dX7_readLineOf_114 : zD cX7_readLineOf 114 (.iastore) 1 115 := ⟨by decide +kernel, rfl⟩
theorem dX7_readLineOf_115 : zD cX7_readLineOf 115 (.aload_n 0) 1 116 := ⟨by decide +kernel, rfl⟩
theorem dX7_readLineOf_116 : zD cX7_readLineOf 116 (.getfield 20) 3 119 := ⟨by decide +kernel, rfl⟩
theorem dX7_readLineOf_119 : zD cX7_readLineOf 119 (.bipush 18) 2 121 := ⟨by decide +kernel, rfl⟩
theorem dX7_readLineOf_121 : zD cX7_readLineOf 121 (.dup2) 1 122 := ⟨by decide +kernel, rfl⟩
theorem dX7_readLineOf_122 : zD cX7_readLineOf 122 (.iaload) 1 123 := ⟨by decide +kernel, rfl⟩
theorem dX7_readLineOf_123 : zD cX7_readLineOf 123 (.iconst 1) 1 124 := ⟨by decide +kernel, rfl⟩
theorem dX7_readLineOf_124 : zD cX7_readLineOf 124 (.iadd) 1 125 := ⟨by decide +kernel, rfl⟩
theorem dX7_readLineOf_125 : zD cX7_readLineOf 125 (.iastore) 1 126 := ⟨by decide +kernel, rfl⟩
theorem dX7_readLineOf_126 : zD cX7_readLineOf 126 (.return_) 1 127 := ⟨by decide +kernel, rfl⟩
theorem dX7_readLine_0 : zD cX7_readLine 0 (.aload_n 0) 1 1 := ⟨by decide +kernel, rfl⟩
theorem dX7_readLine_1 : zD cX7_readLine 1 (.getfield 94) 3 4 := ⟨by decide +kernel, rfl⟩
theorem dX7_readLine_4 : zD cX7_readLine 4 (.iconst 1) 1 5 := ⟨by decide +kernel, rfl⟩
theorem dX7_readLine_5 : zJ cX7_readLine 5 (fun o => .if_icmp .ne o) 15 8 := ⟨10, by decide +kernel, by decide, rfl⟩
theorem dX7_readLine_8 : zD cX7_readLine 8 (.aload_n 0) 1 9 := ⟨by decide +kernel, rfl⟩
theorem dX7_readLine_9 : zD cX7_readLine 9 (.invokevirtual 122) 3 12 := ⟨by decide +kernel, rfl⟩
theorem dX7_readLine_12 : zG cX7_readLine 12 17 := ⟨5, by decide +kernel, by decide⟩
theorem dX7_readLine_15 : zD cX7_readLine 15 (.bipush (-4)) 2 17 := ⟨by decide +kernel, rfl⟩
theorem dX7_readLine_17 : zD cX7_readLine 17 (.istore_n 1) 1 18 := ⟨by decide +kernel, rfl⟩
theorem dX7_readLine_18 : zD cX7_readLine 18 (.aload_n 0) 1 19 := ⟨by decide +kernel, rfl⟩
theorem dX7_readLine_19 : zD cX7_readLine 19 (.iload_n 1) 1 20 := ⟨by decide +kernel, rfl⟩
theorem dX7_readLine_20 : zD cX7_readLine 20 (.bipush (-4)) 2 22 := ⟨by decide +kernel, rfl⟩
theorem dX7_readLine_22 : zJ cX7_readLine 22 (fun o => .if_icmp .eq o) 29 25 := ⟨7, by decide +kernel, by decide, rfl⟩
theorem dX7_readLine_25 : zD cX7_readLine 25 (.iconst 1) 1 26 := ⟨by decide +kernel, rfl⟩
theorem dX7_readLine_26 : zG cX7_readLine 26 30 := ⟨4, by decide +kernel, by decide⟩
theorem dX7_readLine_29 : zD cX7_readLine 29 (.iconst 0) 1 30 := ⟨by decide +kernel, rfl⟩
theorem dX7_readLine_30 : zD cX7_readLine 30 (.iconst 2) 1 31 := ⟨by decide +kernel, rfl⟩
theorem dX7_readLine_31 : zD cX7_readLine 31 (.invokevirtual 108) 3 34 := ⟨by decide +kernel, rfl⟩
theorem dX7_readLine_34 : zD cX7_readLine 34 (.aload_n 0) 1 35 := ⟨by decide +kernel, rfl⟩
theorem dX7_readLine_35 : zD cX7_readLine 35 (.iload_n 1) 1 36 := ⟨by decide +kernel, rfl⟩
theorem dX7_readLine_36 : zD cX7_readLine 36 (.iconst 4) 1 37 := ⟨by decide +kernel, rfl⟩
theorem dX7_readLine_37 : zJ cX7_readLine 37 (fun o => .if_icmp .ge o) 52 40 := ⟨15, by decide +kernel, by decide, rfl⟩
theorem dX7_readLine_40 : zD cX7_readLine 40 (.aload_n 0) 1 41 := ⟨by decide +kernel, rfl⟩
theorem dX7_readLine_41 : zD cX7_readLine 41 (.getfield 20) 3 44 := ⟨by decide +kernel, rfl⟩
theorem dX7_readLine_44 : zD cX7_readLine 44 (.bipush 18) 2 46 := ⟨by decide +kernel, rfl⟩
theorem dX7_readLine_46 : zD cX7_readLine 46 (.iaload) 1 47 := ⟨by decide +kernel, rfl⟩
theorem dX7_readLine_47 : zD cX7_readLine 47 (.bipush 6) 2 49 := ⟨by decide +kernel, rfl⟩
theorem dX7_readLine_49 : zJ cX7_readLine 49 (fun o => .if_icmp .ge o) 56 52 := ⟨7, by decide +kernel, by decide, rfl⟩
theorem dX7_readLine_52 : zD cX7_readLine 52 (.iconst 1) 1 53 := ⟨by decide +kernel, rfl⟩
theorem dX7_readLine_53 : zG cX7_readLine 53 57 := ⟨4, by decide +kernel, by decide⟩
theorem dX7_readLine_56 : zD cX7_readLine 56 (.iconst 0) 1 57 := ⟨by decide +kernel, rfl⟩
theorem dX7_readLine_57 : zD cX7_readLine 57 (.iconst 5) 1 58 := ⟨by decide +kernel, rfl⟩
theorem dX7_readLine_58 : zD cX7_readLine 58 (.invokevirtual 108) 3 61 := ⟨by decide +kernel, rfl⟩
theorem dX7_readLine_61 : zD cX7_readLine 61 (.aload_n 0) 1 62 := ⟨by decide +kernel, rfl⟩
theorem dX7_readLine_62 : zD cX7_readLine 62 (.iload_n 1) 1 63 := ⟨by decide +kernel, rfl⟩
theorem dX7_readLine_63 : zD cX7_readLine 63 (.iconst 4) 1 64 := ⟨by decide +kernel, rfl⟩
theorem dX7_readLine_64 : zJ cX7_readLine 64 (fun o => .if_icmp .ne o) 78 67 := ⟨14, by decide +kernel, by decide, rfl⟩
theorem dX7_readLine_67 : zD cX7_readLine 67 (.aload_n 0) 1 68 := ⟨by decide +kernel, rfl⟩
theorem dX7_readLine_68 : zD cX7_readLine 68 (.getfield 20) 3 71 := ⟨by decide +kernel, rfl⟩
theorem dX7_readLine_71 : zD cX7_readLine 71 (.bipush 27) 2 73 := ⟨by decide +kernel, rfl⟩
theorem dX7_readLine_73 : zD cX7_readLine 73 (.iaload) 1 74 := ⟨by decide +kernel, rfl⟩
theorem dX7_readLine_74 : zD cX7_readLine 74 (.iconst 4) 1 75 := ⟨by decide +kernel, rfl⟩
theorem dX7_readLine_75 : zJ cX7_readLine 75 (fun o => .if_icmp .ge o) 82 78 := ⟨7, by decide +kernel, by decide, rfl⟩
theorem dX7_readLine_78 : zD cX7_readLine 78 (.iconst 1) 1 79 := ⟨by decide +kernel, rfl⟩
theorem dX7_readLine_79 : zG cX7_readLine 79 83 := ⟨4, by decide +kernel, by decide⟩
theorem dX7_readLine_82 : zD cX7_readLine 82 (.iconst 0) 1 83 := ⟨by decide +kernel, rfl⟩
theorem dX7_readLine_83 : zD cX7_readLine 83 (.iconst 5) 1 84 := ⟨by decide +kernel, rfl⟩
theorem dX7_readLine_84 : zD cX7_readLine 84 (.invokevirtual 108) 3 87 := ⟨by decide +kernel, rfl⟩
theorem dX7_readLine_87 : zD cX7_readLine 87 (.aload_n 0) 1 88 := ⟨by decide +kernel, rfl⟩
theorem dX7_readLine_88 : zD cX7_readLine 88 (.iload_n 1) 1 89 := ⟨by decide +kernel, rfl⟩
theorem dX7_readLine_89 : zD cX7_readLine 89 (.iconst 5) 1 90 := ⟨by decide +kernel, rfl⟩
theorem dX7_readLine_90 : zJ cX7_readLine 90 (fun o => .if_icmp .ne o) 100 93 := ⟨10, by decide +kernel, by decide, rfl⟩
theorem dX7_readLine_93 : zD cX7_readLine 93 (.aload_n 0) 1 94 := ⟨by decide +kernel, rfl⟩
theorem dX7_readLine_94 : zD cX7_readLine 94 (.getfield 53) 3 97 := ⟨by decide +kernel, rfl⟩
theorem dX7_readLine_97 : zJ cX7_readLine 97 (fun o => .ifCond .ne o) 104 100 := ⟨7, by decide +kernel, by decide, rfl⟩
theorem dX7_readLine_100 : zD cX7_readLine 100 (.iconst 1) 1 101 := ⟨by decide +kernel, rfl⟩
theorem dX7_readLine_101 : zG cX7_readLine 101 105 := ⟨4, by decide +kernel, by decide⟩
theorem dX7_readLine_104 : zD cX7_readLine 104 (.iconst 0) 1 105 := ⟨by decide +kernel, rfl⟩
theorem dX7_readLine_105 : zD cX7_readLine 105 (.iconst 4) 1 106 := ⟨by decide +kernel, rfl⟩
theorem dX7_readLine_106 : zD cX7_readLine 106 (.invokevirtual 108) 3 109 := ⟨by decide +kernel, rfl⟩
theorem dX7_readLine_109 : zD cX7_readLine 109 (.aload_n 0) 1 110 := ⟨by decide +kernel, rfl⟩
theorem dX7_readLine_110 : zD cX7_readLine 110 (.aload_n 0) 1 111 := ⟨by decide +kernel, rfl⟩
theorem dX7_readLine_111 : zD cX7_readLine 111 (.getfield 53) 3 114 := ⟨by decide +kernel, rfl⟩
theorem dX7_readLine_114 : zJ cX7_readLine 114 (fun o => .ifCond .ne o) 122 117 := ⟨8, by decide +kernel, by decide, rfl⟩
theorem dX7_readLine_117 : zD cX7_readLine 117 (.iload_n 1) 1 118 := ⟨by decide +kernel, rfl⟩
theorem dX7_readLine_118 : zD cX7_readLine 118 (.iconst 5) 1 119 := ⟨by decide +kernel, rfl⟩
theorem dX7_readLine_119 : zJ cX7_readLine 119 (fun o => .if_icmp .ne o) 126 122 := ⟨7, by decide +kernel, by decide, rfl⟩
theorem dX7_readLine_122 : zD cX7_readLine 122 (.iconst 1) 1 123 := ⟨by decide +kernel, rfl⟩
theorem dX7_readLine_123 : zG cX7_readLine 123 127 := ⟨4, by decide +kernel, by decide⟩
theorem dX7_readLine_126 : zD cX7_readLine 126 (.iconst 0) 1 127 := ⟨by decide +kernel, rfl⟩
theorem dX7_readLine_127 : zD cX7_readLine 127 (.putfield 53) 3 130 := ⟨by decide +kernel, rfl⟩
theorem dX7_readLine_130 : zD cX7_readLine 130 (.aload_n 0) 1 131 := ⟨by decide +kernel, rfl⟩
theorem dX7_readLine_131 : zD cX7_readLine 131 (.invokevirtual 112) 3 134 := ⟨by decide +kernel, rfl⟩
theorem dX7_readLine_134 : zD cX7_readLine 134 (.aload_n 0) 1 135 := ⟨by decide +kernel, rfl⟩
theorem dX7_readLine_135 : zD cX7_readLine 135 (.getfield 70) 3 138 := ⟨by decide +kernel, rfl⟩
theorem dX7_readLine_138 : zJ cX7_readLine 138 (fun o => .ifCond .le o) 142 141 := ⟨4, by decide +kernel, by decide, rfl⟩
theorem dX7_readLine_141 : zD cX7_readLine 141 (.return_) 1 142 := ⟨by decide +kernel, rfl⟩
theorem dX7_readLine_142 : zD cX7_readLine 142 (.aload_n 0) 1 143 := ⟨by decide +kernel, rfl⟩
theorem dX7_readLine_143 : zD cX7_readLine 143 (.iload_n 1) 1 144 := ⟨by decide +kernel, rfl⟩
theorem dX7_readLine_144 : zD cX7_readLine 144 (.invokevirtual 126) 3 147 := ⟨by decide +kernel, rfl⟩
theorem dX7_readLine_147 : zD cX7_readLine 147 (.aload_n 0) 1 148 := ⟨by decide +kernel, rfl⟩
theorem dX7_readLine_148 : zD cX7_readLine 148 (.getfield 70) 3 151 := ⟨by decide +kernel, rfl⟩
theorem dX7_readLine_151 : zJ cX7_readLine 151 (fun o => .ifCond .ne o) 172 154 := ⟨21, by decide +kernel, by decide, rfl⟩
theorem dX7_readLine_154 : zD cX7_readLine 154 (.aload_n 0) 1 155 := ⟨by decide +kernel, rfl⟩
theorem dX7_readLine_155 : zD cX7_readLine 155 (.aload_n 0) 1 156 := ⟨by decide +kernel, rfl⟩
theorem dX7_readLine_156 : zD cX7_readLine 156 (.getfield 94) 3 159 := ⟨by decide +kernel, rfl⟩
theorem dX7_readLine_159 : zD cX7_readLine 159 (.iconst 3) 1 160 := ⟨by decide +kernel, rfl⟩
theorem dX7_readLine_160 : zJ cX7_readLine 160 (fun o => .if_icmp .ne o) 167 163 := ⟨7, by decide +kernel, by decide, rfl⟩
theorem dX7_readLine_163 : zD cX7_readLine 163 (.iconst 1) 1 164 := ⟨by decide +kernel, rfl⟩
theorem dX7_readLine_164 : zG cX7_readLine 164 168 := ⟨4, by decide +kernel, by decide⟩
theorem dX7_readLine_167 : zD cX7_readLine 167 (.iconst 0) 1 168 := ⟨by decide +kernel, rfl⟩
theorem dX7_readLine_168 : zD cX7_readLine 168 (.iconst 2) 1 169 := ⟨by decide +kernel, rfl⟩
theorem dX7_readLine_169 : zD cX7_readLine 169 (.invokevirtual 108) 3 172 := ⟨by decide +kernel, rfl⟩
theorem dX7_readLine_172 : zD cX7_readLine 172 (.aload_n 0) 1 173 := ⟨by decide +kernel, rfl⟩
theorem dX7_readLine_173 : zD cX7_readLine 173 (.invokevirtual 112) 3 176 := ⟨by decide +kernel, rfl⟩
theorem dX7_readLine_176 : zD cX7_readLine 176 (.return_) 1 177 := ⟨by decide +kernel, rfl⟩
theorem dX7_text_0 : zD cX7_text 0 (.iconst 0) 1 1 := ⟨by decide +kernel, rfl⟩
theorem dX7_text_1 : zD cX7_text 1 (.istore_n 1) 1 2 := ⟨by decide +kernel, rfl⟩
theorem dX7_text_2 : zD cX7_text 2 (.aload_n 0) 1 3 := ⟨by decide +kernel, rfl⟩
theorem dX7_text_3 : zD cX7_text 3 (.iconst 0) 1 4 := ⟨by decide +kernel, rfl⟩
theorem dX7_text_4 : zD cX7_text 4 (.putfield 70) 3 7 := ⟨by decide +kernel, rfl⟩
theorem dX7_text_7 : zD cX7_text 7 (.aload_n 0) 1 8 := ⟨by decide +kernel, rfl⟩
theorem dX7_text_8 : zD cX7_text 8 (.iconst 0) 1 9 := ⟨by decide +kernel, rfl⟩
theorem dX7_text_9 : zD cX7_text 9 (.putfield 79) 3 12 := ⟨by decide +kernel, rfl⟩
theorem dX7_text_12 : zD cX7_text 12 (.aload_n 0) 1 13 := ⟨by decide +kernel, rfl⟩
theorem dX7_text_13 : zD cX7_text 13 (.invokevirtual 47) 3 16 := ⟨by decide +kernel, rfl⟩
theorem dX7_text_16 : zD cX7_text 16 (.aload_n 0) 1 17 := ⟨by decide +kernel, rfl⟩
theorem dX7_text_17 : zD cX7_text 17 (.invokevirtual 112) 3 20 := ⟨by decide +kernel, rfl⟩
theorem dX7_text_20 : zD cX7_text 20 (.aload_n 0) 1 21 := ⟨by decide +kernel, rfl⟩
theorem dX7_text_21 : zD cX7_text 21 (.getfield 70) 3 24 := ⟨by decide +kernel, rfl⟩
theorem dX7_text_24 : zJ cX7_text 24 (fun o => .ifCond .ne o) 44 27 := ⟨20, by decide +kernel, by decide, rfl⟩
theorem dX7_text_27 : zD cX7_text 27 (.aload_n 0) 1 28 := ⟨by decide +kernel, rfl⟩
theorem dX7_text_28 : zD cX7_text 28 (.getfield 94) 3 31 := ⟨by decide +kernel, rfl⟩
theorem dX7_text_31 : zJ cX7_text 31 (fun o => .ifCond .eq o) 44 34 := ⟨13, by decide +kernel, by decide, rfl⟩
theorem dX7_text_34 : zD cX7_text 34 (.aload_n 0) 1 35 := ⟨by decide +kernel, rfl⟩
theorem dX7_text_35 : zD cX7_text 35 (.invokevirtual 130) 3 38 := ⟨by decide +kernel, rfl⟩
theorem dX7_text_38 : zD cX7_text 38 (.iinc 1 1) 3 41 := ⟨by decide +kernel, rfl⟩
theorem dX7_text_41 : zG cX7_text 41 20 := ⟨(-21), by decide +kernel, by decide⟩
theorem dX7_text_44 : zD cX7_text 44 (.aload_n 0) 1 45 := ⟨by decide +kernel, rfl⟩
theorem dX7_text_45 : zD cX7_text 45 (.aload_n 0) 1 46 := ⟨by decide +kernel, rfl⟩
theorem dX7_text_46 : zD cX7_text 46 (.getfield 57) 3 49 := ⟨by decide +kernel, rfl⟩
theorem dX7_text_49 : zD cX7_text 49 (.aload_n 0) 1 50 := ⟨by decide +kernel, rfl⟩
theorem dX7_text_50 : zD cX7_text 50 (.getfield 20) 3 53 := ⟨by decide +kernel, rfl⟩
theorem dX7_text_53 : zD cX7_text 53 (.bipush 18) 2 55 := ⟨by decide +kernel, rfl⟩
theorem dX7_text_55 : zD cX7_text 55 (.iaload) 1 56 := ⟨by decide +kernel, rfl⟩
theorem dX7_text_56 : zJ cX7_text 56 (fun o => .if_icmp .ge o) 63 59 := ⟨7, by decide +kernel, by decide, rfl⟩
theorem dX7_text_59 : zD cX7_text 59 (.iconst 1) 1 60 := ⟨by decide +kernel, rfl⟩
theorem dX7_text_60 : zG cX7_text 60 64 := ⟨4, by decide +kernel, by decide⟩
theorem dX7_text_63 : zD cX7_text 63 (.iconst 0) 1 64 := ⟨by decide +kernel, rfl⟩
theorem dX7_text_64 : zD cX7_text 64 (.bipush 6) 2 66 := ⟨by decide +kernel, rfl⟩
theorem dX7_text_66 : zD cX7_text 66 (.invokevirtual 108) 3 69 := ⟨by decide +kernel, rfl⟩
theorem dX7_text_69 : zD cX7_text 69 (.aload_n 0) 1 70 := ⟨by decide +kernel, rfl⟩
theorem dX7_text_70 : zD cX7_text 70 (.iconst 0) 1 71 := ⟨by decide +kernel, rfl⟩
theorem dX7_text_71 : zD cX7_text 71 (.putfield 67) 3 74 := ⟨by decide +kernel, rfl⟩
theorem dX7_text_74 : zD cX7_text 74 (.aload_n 0) 1 75 := ⟨by decide +kernel, rfl⟩
theorem dX7_text_75 : zD cX7_text 75 (.getfield 70) 3 78 := ⟨by decide +kernel, rfl⟩
theorem dX7_text_78 : zJ cX7_text 78 (fun o => .ifCond .le o) 89 81 := ⟨11, by decide +kernel, by decide, rfl⟩
theorem dX7_text_81 : zD cX7_text 81 (.bipush (-10)) 2 83 := ⟨by decide +kernel, rfl⟩
theorem dX7_text_83 : zD cX7_text 83 (.aload_n 0) 1 84 := ⟨by decide +kernel, rfl⟩
theorem dX7_text_84 : zD cX7_text 84 (.getfield 76) 3 87 := ⟨by decide +kernel, rfl⟩
theorem dX7_text_87 : zD cX7_text 87 (.isub) 1 88 := ⟨by decide +kernel, rfl⟩
theorem dX7_text_88 : zD cX7_text 88 (.ireturn) 1 89 := ⟨by decide +kernel, rfl⟩
theorem dX7_text_89 : zD cX7_text 89 (.aload_n 0) 1 90 := ⟨by decide +kernel, rfl⟩
theorem dX7_text_90 : zD cX7_text 90 (.invokevirtual 50) 3 93 := ⟨by decide +kernel, rfl⟩
theorem dX7_text_93 : zD cX7_text 93 (.iload_n 1) 1 94 := ⟨by decide +kernel, rfl⟩
theorem dX7_text_94 : zD cX7_text 94 (.ireturn) 1 95 := ⟨by decide +kernel, rfl⟩
theorem dX7_fault_0 : zD cX7_fault 0 (.aload_n 0) 1 1 := ⟨by decide +kernel, rfl⟩
theorem dX7_fault_1 : zD cX7_fault 1 (.getfield 70) 3 4 := ⟨by decide +kernel, rfl⟩
theorem dX7_fault_4 : zD cX7_fault 4 (.ireturn) 1 5 := ⟨by decide +kernel, rfl⟩
theorem dX7_isField_0 : zD cX7_isField 0 (.iload_n 1) 1 1 := ⟨by decide +kernel, rfl⟩
theorem dX7_isField_1 : zD cX7_isField 1 (.i2l) 1 2 := ⟨by decide +kernel, rfl⟩
theorem dX7_isField_2 : zD cX7_isField 2 (.lconst 0) 1 3 := ⟨by decide +kernel, rfl⟩
theorem dX7_isField_3 : zD cX7_isField 3 (.aload_n 0) 1 4 := ⟨by decide +kernel, rfl⟩
theorem dX7_isField_4 : zD cX7_isField 4 (.getfield 7) 3 7 := ⟨by decide +kernel, rfl⟩
theorem dX7_isField_7 : zD cX7_isField 7 (.bipush 18) 2 9 := ⟨by decide +kernel, rfl⟩
theorem dX7_isField_9 : zD cX7_isField 9 (.iaload) 1 10 := ⟨by decide +kernel, rfl⟩
theorem dX7_isField_10 : zD cX7_isField 10 (.iconst 1) 1 11 := ⟨by decide +kernel, rfl⟩
theorem dX7_isField_11 : zD cX7_isField 11 (.isub) 1 12 := ⟨by decide +kernel, rfl⟩
theorem dX7_isField_12 : zD cX7_isField 12 (.i2l) 1 13 := ⟨by decide +kernel, rfl⟩
theorem dX7_isField_13 : zD cX7_isField 13 (.invokestatic 63) 3 16 := ⟨by decide +kernel, rfl⟩
theorem dX7_isField_16 : zD cX7_isField 16 (.ireturn) 1 17 := ⟨by decide +kernel, rfl⟩
theorem dX7_isBand_0 : zD cX7_isBand 0 (.iload_n 1) 1 1 := ⟨by decide +kernel, rfl⟩
theorem dX7_isBand_1 : zD cX7_isBand 1 (.i2l) 1 2 := ⟨by decide +kernel, rfl⟩
theorem dX7_isBand_2 : zD cX7_isBand 2 (.lconst 0) 1 3 := ⟨by decide +kernel, rfl⟩
theorem dX7_isBand_3 : zD cX7_isBand 3 (.aload_n 0) 1 4 := ⟨by decide +kernel, rfl⟩
theorem dX7_isBand_4 : zD cX7_isBand 4 (.getfield 7) 3 7 := ⟨by decide +kernel, rfl⟩
theorem dX7_isBand_7 : zD cX7_isBand 7 (.bipush 27) 2 9 := ⟨by decide +kernel, rfl⟩
theorem dX7_isBand_9 : zD cX7_isBand 9 (.iaload) 1 10 := ⟨by decide +kernel, rfl⟩
theorem dX7_isBand_10 : zD cX7_isBand 10 (.iconst 1) 1 11 := ⟨by decide +kernel, rfl⟩
theorem dX7_isBand_11 : zD cX7_isBand 11 (.isub) 1 12 := ⟨by decide +kernel, rfl⟩
theorem dX7_isBand_12 : zD cX7_isBand 12 (.i2l) 1 13 := ⟨by decide +kernel, rfl⟩
theorem dX7_isBand_13 : zD cX7_isBand 13 (.invokestatic 63) 3 16 := ⟨by decide +kernel, rfl⟩
theorem dX7_isBand_16 : zD cX7_isBand 16 (.ireturn) 1 17 := ⟨by decide +kernel, rfl⟩
theorem dX7_isPart_0 : zD cX7_isPart 0 (.iload_n 0) 1 1 := ⟨by decide +kernel, rfl⟩
theorem dX7_isPart_1 : zD cX7_isPart 1 (.i2l) 1 2 := ⟨by decide +kernel, rfl⟩
theorem dX7_isPart_2 : zD cX7_isPart 2 (.lconst 0) 1 3 := ⟨by decide +kernel, rfl⟩
theorem dX7_isPart_3 : zD cX7_isPart 3 (.lconst 1) 1 4 := ⟨by decide +kernel, rfl⟩
theorem dX7_isPart_4 : zD cX7_isPart 4 (.invokestatic 63) 3 7 := ⟨by decide +kernel, rfl⟩
theorem dX7_isPart_7 : zD cX7_isPart 7 (.ireturn) 1 8 := ⟨by decide +kernel, rfl⟩
theorem dX7_areEars_0 : zD cX7_areEars 0 (.iload_n 0) 1 1 := ⟨by decide +kernel, rfl⟩
theorem dX7_areEars_1 : zD cX7_areEars 1 (.i2l) 1 2 := ⟨by decide +kernel, rfl⟩
theorem dX7_areEars_2 : zD cX7_areEars 2 (.lconst 0) 1 3 := ⟨by decide +kernel, rfl⟩
theorem dX7_areEars_3 : zD cX7_areEars 3 (.ldc2_w 133) 3 6 := ⟨by decide +kernel, rfl⟩
theorem dX7_areEars_6 : zD cX7_areEars 6 (.invokestatic 63) 3 9 := ⟨by decide +kernel, rfl⟩
theorem dX7_areEars_9 : zD cX7_areEars 9 (.ireturn) 1 10 := ⟨by decide +kernel, rfl⟩
theorem dX7_starts_0 : zD cX7_starts 0 (.iconst 0) 1 1 := ⟨by decide +kernel, rfl⟩
theorem dX7_starts_1 : zD cX7_starts 1 (.istore_n 1) 1 2 := ⟨by decide +kernel, rfl⟩
theorem dX7_starts_2 : zD cX7_starts 2 (.iload_n 1) 1 3 := ⟨by decide +kernel, rfl⟩
theorem dX7_starts_3 : zD cX7_starts 3 (.bipush 50) 2 5 := ⟨by decide +kernel, rfl⟩
theorem dX7_starts_5 : zJ cX7_starts 5 (fun o => .if_icmp .ge o) 26 8 := ⟨21, by decide +kernel, by decide, rfl⟩
theorem dX7_starts_8 : zD cX7_starts 8 (.aload_n 0) 1 9 := ⟨by decide +kernel, rfl⟩
theorem dX7_starts_9 : zD cX7_starts 9 (.getfield 13) 3 12 := ⟨by decide +kernel, rfl⟩
theorem dX7_starts_12 : zD cX7_starts 12 (.iload_n 1) 1 13 := ⟨by decide +kernel, rfl⟩
theorem dX7_starts_13 : zD cX7_starts 13 (.aload_n 0) 1 14 := ⟨by decide +kernel, rfl⟩
theorem dX7_starts_14 : zD cX7_starts 14 (.getfield 7) 3 17 := ⟨by decide +kernel, rfl⟩
theorem dX7_starts_17 : zD cX7_starts 17 (.iload_n 1) 1 18 := ⟨by decide +kernel, rfl⟩
theorem dX7_starts_18 : zD cX7_starts 18 (.iaload) 1 19 := ⟨by decide +kernel, rfl⟩
theorem dX7_starts_19 : zD cX7_starts 19 (.iastore) 1 20 := ⟨by decide +kernel, rfl⟩
theorem dX7_starts_20 : zD cX7_starts 20 (.iinc 1 1) 3 23 := ⟨by decide +kernel, rfl⟩
theorem dX7_starts_23 : zG cX7_starts 23 2 := ⟨(-21), by decide +kernel, by decide⟩
theorem dX7_starts_26 : zD cX7_starts 26 (.aload_n 0) 1 27 := ⟨by decide +kernel, rfl⟩
theorem dX7_starts_27 : zD cX7_starts 27 (.bipush (-4)) 2 29 := ⟨by decide +kernel, rfl⟩
theorem dX7_starts_29 : zD cX7_starts 29 (.putfield 135) 3 32 := ⟨by decide +kernel, rfl⟩
theorem dX7_starts_32 : zD cX7_starts 32 (.aload_n 0) 1 33 := ⟨by decide +kernel, rfl⟩
theorem dX7_starts_33 : zD cX7_starts 33 (.iconst 0) 1 34 := ⟨by decide +kernel, rfl⟩
theorem dX7_starts_34 : zD cX7_starts 34 (.putfield 138) 3 37 := ⟨by decide +kernel, rfl⟩
theorem dX7_starts_37 : zD cX7_starts 37 (.return_) 1 38 := ⟨by decide +kernel, rfl⟩
theorem dX7_settles_0 : zD cX7_settles 0 (.iconst 0) 1 1 := ⟨by decide +kernel, rfl⟩
theorem dX7_settles_1 : zD cX7_settles 1 (.istore_n 1) 1 2 := ⟨by decide +kernel, rfl⟩
theorem dX7_settles_2 : zD cX7_settles 2 (.iload_n 1) 1 3 := ⟨by decide +kernel, rfl⟩
theorem dX7_settles_3 : zD cX7_settles 3 (.bipush 50) 2 5 := ⟨by decide +kernel, rfl⟩
theorem dX7_settles_5 : zJ cX7_settles 5 (fun o => .if_icmp .ge o) 26 8 := ⟨21, by decide +kernel, by decide, rfl⟩
theorem dX7_settles_8 : zD cX7_settles 8 (.aload_n 0) 1 9 := ⟨by decide +kernel, rfl⟩
theorem dX7_settles_9 : zD cX7_settles 9 (.getfield 7) 3 12 := ⟨by decide +kernel, rfl⟩
theorem dX7_settles_12 : zD cX7_settles 12 (.iload_n 1) 1 13 := ⟨by decide +kernel, rfl⟩
theorem dX7_settles_13 : zD cX7_settles 13 (.aload_n 0) 1 14 := ⟨by decide +kernel, rfl⟩
theorem dX7_settles_14 : zD cX7_settles 14 (.getfield 13) 3 17 := ⟨by decide +kernel, rfl⟩
theorem dX7_settles_17 : zD cX7_settles 17 (.iload_n 1) 1 18 := ⟨by decide +kernel, rfl⟩
theorem dX7_settles_18 : zD cX7_settles 18 (.iaload) 1 19 := ⟨by decide +kernel, rfl⟩
theorem dX7_settles_19 : zD cX7_settles 19 (.iastore) 1 20 := ⟨by decide +kernel, rfl⟩
theorem dX7_settles_20 : zD cX7_settles 20 (.iinc 1 1) 3 23 := ⟨by decide +kernel, rfl⟩
theorem dX7_settles_23 : zG cX7_settles 23 2 := ⟨(-21), by decide +kernel, by decide⟩
theorem dX7_settles_26 : zD cX7_settles 26 (.return_) 1 27 := ⟨by decide +kernel, rfl⟩
theorem dX7_of_0 : zD cX7_of 0 (.aload_n 0) 1 1 := ⟨by decide +kernel, rfl⟩
theorem dX7_of_1 : zD cX7_of 1 (.getfield 13) 3 4 := ⟨by decide +kernel, rfl⟩
theorem dX7_of_4 : zD cX7_of 4 (.iconst 3) 1 5 := ⟨by decide +kernel, rfl⟩
theorem dX7_of_5 : zD cX7_of 5 (.iload_n 1) 1 6 := ⟨by decide +kernel, rfl⟩
theorem dX7_of_6 : zD cX7_of 6 (.imul) 1 7 := ⟨by decide +kernel, rfl⟩
theorem dX7_of_7 : zD cX7_of 7 (.iload_n 2) 1 8 := ⟨by decide +kernel, rfl⟩
theorem dX7_of_8 : zD cX7_of 8 (.iadd) 1 9 := ⟨by decide +kernel, rfl⟩
theorem dX7_of_9 : zD cX7_of 9 (.iaload) 1 10 := ⟨by decide +kernel, rfl⟩
theorem dX7_of_10 : zD cX7_of 10 (.ireturn) 1 11 := ⟨by decide +kernel, rfl⟩
theorem dX7_becomesOf_0 : zD cX7_becomesOf 0 (.aload_n 0) 1 1 := ⟨by decide +kernel, rfl⟩
theorem dX7_becomesOf_1 : zD cX7_becomesOf 1 (.getfield 13) 3 4 := ⟨by decide +kernel, rfl⟩
theorem dX7_becomesOf_4 : zD cX7_becomesOf 4 (.iconst 3) 1 5 := ⟨by decide +kernel, rfl⟩
theorem dX7_becomesOf_5 : zD cX7_becomesOf 5 (.iload_n 1) 1 6 := ⟨by decide +kernel, rfl⟩
theorem dX7_becomesOf_6 : zD cX7_becomesOf 6 (.imul) 1 7 := ⟨by decide +kernel, rfl⟩
theorem dX7_becomesOf_7 : zD cX7_becomesOf 7 (.iload_n 2) 1 8 := ⟨by decide +kernel, rfl⟩
theorem dX7_becomesOf_8 : zD cX7_becomesOf 8 (.iadd) 1 9 := ⟨by decide +kernel, rfl⟩
theorem dX7_becomesOf_9 : zD cX7_becomesOf 9 (.iload_n 3) 1 10 := ⟨by decide +kernel, rfl⟩
theorem dX7_becomesOf_10 : zD cX7_becomesOf 10 (.iastore) 1 11 := ⟨by decide +kernel, rfl⟩
theorem dX7_becomesOf_11 : zD cX7_becomesOf 11 (.return_) 1 12 := ⟨by decide +kernel, rfl⟩
theorem dX7_ofBand_0 : zD cX7_ofBand 0 (.aload_n 0) 1 1 := ⟨by decide +kernel, rfl⟩
theorem dX7_ofBand_1 : zD cX7_ofBand 1 (.getfield 13) 3 4 := ⟨by decide +kernel, rfl⟩
theorem dX7_ofBand_4 : zD cX7_ofBand 4 (.bipush 19) 2 6 := ⟨by decide +kernel, rfl⟩
theorem dX7_ofBand_6 : zD cX7_ofBand 6 (.iconst 2) 1 7 := ⟨by decide +kernel, rfl⟩
theorem dX7_ofBand_7 : zD cX7_ofBand 7 (.iload_n 1) 1 8 := ⟨by decide +kernel, rfl⟩
theorem dX7_ofBand_8 : zD cX7_ofBand 8 (.imul) 1 9 := ⟨by decide +kernel, rfl⟩
theorem dX7_ofBand_9 : zD cX7_ofBand 9 (.iadd) 1 10 := ⟨by decide +kernel, rfl⟩
theorem dX7_ofBand_10 : zD cX7_ofBand 10 (.iload_n 2) 1 11 := ⟨by decide +kernel, rfl⟩
theorem dX7_ofBand_11 : zD cX7_ofBand 11 (.iadd) 1 12 := ⟨by decide +kernel, rfl⟩
theorem dX7_ofBand_12 : zD cX7_ofBand 12 (.iaload) 1 13 := ⟨by decide +kernel, rfl⟩
theorem dX7_ofBand_13 : zD cX7_ofBand 13 (.ireturn) 1 14 := ⟨by decide +kernel, rfl⟩
theorem dX7_bandBecomes_0 : zD cX7_bandBecomes 0 (.aload_n 0) 1 1 := ⟨by decide +kernel, rfl⟩
theorem dX7_bandBecomes_1 : zD cX7_bandBecomes 1 (.getfield 13) 3 4 := ⟨by decide +kernel, rfl⟩
theorem dX7_bandBecomes_4 : zD cX7_bandBecomes 4 (.bipush 19) 2 6 := ⟨by decide +kernel, rfl⟩
theorem dX7_bandBecomes_6 : zD cX7_bandBecomes 6 (.iconst 2) 1 7 := ⟨by decide +kernel, rfl⟩
theorem dX7_bandBecomes_7 : zD cX7_bandBecomes 7 (.iload_n 1) 1 8 := ⟨by decide +kernel, rfl⟩
theorem dX7_bandBecomes_8 : zD cX7_bandBecomes 8 (.imul) 1 9 := ⟨by decide +kernel, rfl⟩
theorem dX7_bandBecomes_9 : zD cX7_bandBecomes 9 (.iadd) 1 10 := ⟨by decide +kernel, rfl⟩
theorem dX7_bandBecomes_10 : zD cX7_bandBecomes 10 (.iload_n 2) 1 11 := ⟨by decide +kernel, rfl⟩
theorem dX7_bandBecomes_11 : zD cX7_bandBecomes 11 (.iadd) 1 12 := ⟨by decide +kernel, rfl⟩
theorem dX7_bandBecomes_12 : zD cX7_bandBecomes 12 (.iload_n 3) 1 13 := ⟨by decide +kernel, rfl⟩
theorem dX7_bandBecomes_13 : zD cX7_bandBecomes 13 (.iastore) 1 14 := ⟨by decide +kernel, rfl⟩
theorem dX7_bandBecomes_14 : zD cX7_bandBecomes 14 (.return_) 1 15 := ⟨by decide +kernel, rfl⟩
theorem dX7_heardAt_0 : zD cX7_heardAt 0 (.iconst 0) 1 1 := ⟨by decide +kernel, rfl⟩
theorem dX7_heardAt_1 : zD cX7_heardAt 1 (.istore_n 2) 1 2 := ⟨by decide +kernel, rfl⟩
theorem dX7_heardAt_2 : zD cX7_heardAt 2 (.iconst 0) 1 3 := ⟨by decide +kernel, rfl⟩
theorem dX7_heardAt_3 : zD cX7_heardAt 3 (.istore_n 3) 1 4 := ⟨by decide +kernel, rfl⟩
theorem dX7_heardAt_4 : zD cX7_heardAt 4 (.iload_n 3) 1 5 := ⟨by decide +kernel, rfl⟩
theorem dX7_heardAt_5 : zD cX7_heardAt 5 (.aload_n 0) 1 6 := ⟨by decide +kernel, rfl⟩
theorem dX7_heardAt_6 : zD cX7_heardAt 6 (.getfield 13) 3 9 := ⟨by decide +kernel, rfl⟩
theorem dX7_heardAt_9 : zD cX7_heardAt 9 (.bipush 27) 2 11 := ⟨by decide +kernel, rfl⟩
theorem dX7_heardAt_11 : zD cX7_heardAt 11 (.iaload) 1 12 := ⟨by decide +kernel, rfl⟩
theorem dX7_heardAt_12 : zJ cX7_heardAt 12 (fun o => .if_icmp .ge o) 52 15 := ⟨40, by decide +kernel, by decide, rfl⟩
theorem dX7_heardAt_15 : zD cX7_heardAt 15 (.iload_n 2) 1 16 := ⟨by decide +kernel, rfl⟩
theorem dX7_heardAt_16 : zD cX7_heardAt 16 (.iload_n 3) 1 17 := ⟨by decide +kernel, rfl⟩
theorem dX7_heardAt_17 : zD cX7_heardAt 17 (.aload_n 0) 1 18 := ⟨by decide +kernel, rfl⟩
theorem dX7_heardAt_18 : zD cX7_heardAt 18 (.getfield 135) 3 21 := ⟨by decide +kernel, rfl⟩
theorem dX7_heardAt_21 : zJ cX7_heardAt 21 (fun o => .if_icmp .eq o) 43 24 := ⟨22, by decide +kernel, by decide, rfl⟩
theorem dX7_heardAt_24 : zD cX7_heardAt 24 (.aload_n 0) 1 25 := ⟨by decide +kernel, rfl⟩
theorem dX7_heardAt_25 : zD cX7_heardAt 25 (.iload_n 3) 1 26 := ⟨by decide +kernel, rfl⟩
theorem dX7_heardAt_26 : zD cX7_heardAt 26 (.iconst 0) 1 27 := ⟨by decide +kernel, rfl⟩
theorem dX7_heardAt_27 : zD cX7_heardAt 27 (.invokevirtual 141) 3 30 := ⟨by decide +kernel, rfl⟩
theorem dX7_heardAt_30 : zD cX7_heardAt 30 (.iload_n 1) 1 31 := ⟨by decide +kernel, rfl⟩
theorem dX7_heardAt_31 : zJ cX7_heardAt 31 (fun o => .if_icmp .ne o) 43 34 := ⟨12, by decide +kernel, by decide, rfl⟩
theorem dX7_heardAt_34 : zD cX7_heardAt 34 (.aload_n 0) 1 35 := ⟨by decide +kernel, rfl⟩
theorem dX7_heardAt_35 : zD cX7_heardAt 35 (.iload_n 3) 1 36 := ⟨by decide +kernel, rfl⟩
theorem dX7_heardAt_36 : zD cX7_heardAt 36 (.iconst 1) 1 37 := ⟨by decide +kernel, rfl⟩
theorem dX7_heardAt_37 : zD cX7_heardAt 37 (.invokevirtual 141) 3 40 := ⟨by decide +kernel, rfl⟩
theorem dX7_heardAt_40 : zG cX7_heardAt 40 44 := ⟨4, by decide +kernel, by decide⟩
theorem dX7_heardAt_43 : zD cX7_heardAt 43 (.iconst 0) 1 44 := ⟨by decide +kernel, rfl⟩
theorem dX7_heardAt_44 : zD cX7_heardAt 44 (.iadd) 1 45 := ⟨by decide +kernel, rfl⟩
theorem dX7_heardAt_45 : zD cX7_heardAt 45 (.istore_n 2) 1 46 := ⟨by decide +kernel, rfl⟩
theorem dX7_heardAt_46 : zD cX7_heardAt 46 (.iinc 3 1) 3 49 := ⟨by decide +kernel, rfl⟩
theorem dX7_heardAt_49 : zG cX7_heardAt 49 4 := ⟨(-45), by decide +kernel, by decide⟩
theorem dX7_heardAt_52 : zD cX7_heardAt 52 (.iload_n 2) 1 53 := ⟨by decide +kernel, rfl⟩
theorem dX7_heardAt_53 : zD cX7_heardAt 53 (.ireturn) 1 54 := ⟨by decide +kernel, rfl⟩
theorem dX7_growsBy_0 : zD cX7_growsBy 0 (.aload_n 0) 1 1 := ⟨by decide +kernel, rfl⟩
theorem dX7_growsBy_1 : zD cX7_growsBy 1 (.iload_n 1) 1 2 := ⟨by decide +kernel, rfl⟩
theorem dX7_growsBy_2 : zD cX7_growsBy 2 (.invokevirtual 144) 3 5 := ⟨by decide +kernel, rfl⟩
theorem dX7_growsBy_5 : zD cX7_growsBy 5 (.aload_n 0) 1 6 := ⟨by decide +kernel, rfl⟩
theorem dX7_growsBy_6 : zD cX7_growsBy 6 (.iload_n 1) 1 7 := ⟨by decide +kernel, rfl⟩
theorem dX7_growsBy_7 : zD cX7_growsBy 7 (.iconst 2) 1 8 := ⟨by decide +kernel, rfl⟩
theorem dX7_growsBy_8 : zD cX7_growsBy 8 (.invokevirtual 147) 3 11 := ⟨by decide +kernel, rfl⟩
theorem dX7_growsBy_11 : zD cX7_growsBy 11 (.isub) 1 12 := ⟨by decide +kernel, rfl⟩
theorem dX7_growsBy_12 : zD cX7_growsBy 12 (.istore_n 2) 1 13 := ⟨by decide +kernel, rfl⟩
theorem dX7_growsBy_13 : zD cX7_growsBy 13 (.aload_n 0) 1 14 := ⟨by decide +kernel, rfl⟩
theorem dX7_growsBy_14 : zD cX7_growsBy 14 (.iload_n 1) 1 15 := ⟨by decide +kernel, rfl⟩
theorem dX7_growsBy_15 : zD cX7_growsBy 15 (.iconst 0) 1 16 := ⟨by decide +kernel, rfl⟩
theorem dX7_growsBy_16 : zD cX7_growsBy 16 (.invokevirtual 147) 3 19 := ⟨by decide +kernel, rfl⟩
theorem dX7_growsBy_19 : zD cX7_growsBy 19 (.tableswitch 51 1 3 #[25, 29, 41]) 25 44 := ⟨by decide +kernel, rfl⟩
theorem dX7_growsBy_44 : zD cX7_growsBy 44 (.iconst 2) 1 45 := ⟨by decide +kernel, rfl⟩
theorem dX7_growsBy_45 : zD cX7_growsBy 45 (.iload_n 2) 1 46 := ⟨by decide +kernel, rfl⟩
theorem dX7_growsBy_46 : zD cX7_growsBy 46 (.imul) 1 47 := ⟨by decide +kernel, rfl⟩
theorem dX7_growsBy_47 : zD cX7_growsBy 47 (.ireturn) 1 48 := ⟨by decide +kernel, rfl⟩
theorem dX7_growsBy_48 : zD cX7_growsBy 48 (.iload_n 2) 1 49 := ⟨by decide +kernel, rfl⟩
theorem dX7_growsBy_49 : zJ cX7_growsBy 49 (fun o => .ifCond .le o) 58 52 := ⟨9, by decide +kernel, by decide, rfl⟩
theorem dX7_growsBy_52 : zD cX7_growsBy 52 (.iload_n 2) 1 53 := ⟨by decide +kernel, rfl⟩
theorem dX7_growsBy_53 : zD cX7_growsBy 53 (.iconst 2) 1 54 := ⟨by decide +kernel, rfl⟩
theorem dX7_growsBy_54 : zD cX7_growsBy 54 (.idiv) 1 55 := ⟨by decide +kernel, rfl⟩
theorem dX7_growsBy_55 : zG cX7_growsBy 55 59 := ⟨4, by decide +kernel, by decide⟩
theorem dX7_growsBy_58 : zD cX7_growsBy 58 (.iload_n 2) 1 59 := ⟨by decide +kernel, rfl⟩
theorem dX7_growsBy_59 : zD cX7_growsBy 59 (.ireturn) 1 60 := ⟨by decide +kernel, rfl⟩
theorem dX7_growsBy_60 : zD cX7_growsBy 60 (.iload_n 2) 1 61 := ⟨by decide +kernel, rfl⟩
theorem dX7_growsBy_61 : zJ cX7_growsBy 61 (fun o => .ifCond .le o) 68 64 := ⟨7, by decide +kernel, by decide, rfl⟩
theorem dX7_growsBy_64 : zD cX7_growsBy 64 (.iconst 0) 1 65 := ⟨by decide +kernel, rfl⟩
theorem dX7_growsBy_65 : zG cX7_growsBy 65 69 := ⟨4, by decide +kernel, by decide⟩
theorem dX7_growsBy_68 : zD cX7_growsBy 68 (.iload_n 2) 1 69 := ⟨by decide +kernel, rfl⟩
theorem dX7_growsBy_69 : zD cX7_growsBy 69 (.ireturn) 1 70 := ⟨by decide +kernel, rfl⟩
theorem dX7_growsBy_70 : zD cX7_growsBy 70 (.iload_n 2) 1 71 := ⟨by decide +kernel, rfl⟩
theorem dX7_growsBy_71 : zD cX7_growsBy 71 (.ireturn) 1 72 := ⟨by decide +kernel, rfl⟩
theorem dX7_heeds_0 : zD cX7_heeds 0 (.aload_n 0) 1 1 := ⟨by decide +kernel, rfl⟩
theorem dX7_heeds_1 : zD cX7_heeds 1 (.iload_n 1) 1 2 := ⟨by decide +kernel, rfl⟩
theorem dX7_heeds_2 : zD cX7_heeds 2 (.iconst 0) 1 3 := ⟨by decide +kernel, rfl⟩
theorem dX7_heeds_3 : zD cX7_heeds 3 (.invokevirtual 147) 3 6 := ⟨by decide +kernel, rfl⟩
theorem dX7_heeds_6 : zD cX7_heeds 6 (.istore_n 2) 1 7 := ⟨by decide +kernel, rfl⟩
theorem dX7_heeds_7 : zD cX7_heeds 7 (.iload_n 2) 1 8 := ⟨by decide +kernel, rfl⟩
theorem dX7_heeds_8 : zD cX7_heeds 8 (.iconst 1) 1 9 := ⟨by decide +kernel, rfl⟩
theorem dX7_heeds_9 : zJ cX7_heeds 9 (fun o => .if_icmp .ne o) 16 12 := ⟨7, by decide +kernel, by decide, rfl⟩
theorem dX7_heeds_12 : zD cX7_heeds 12 (.iconst 2) 1 13 := ⟨by decide +kernel, rfl⟩
theorem dX7_heeds_13 : zG cX7_heeds 13 26 := ⟨13, by decide +kernel, by decide⟩
theorem dX7_heeds_16 : zD cX7_heeds 16 (.iload_n 2) 1 17 := ⟨by decide +kernel, rfl⟩
theorem dX7_heeds_17 : zD cX7_heeds 17 (.iconst 3) 1 18 := ⟨by decide +kernel, rfl⟩
theorem dX7_heeds_18 : zJ cX7_heeds 18 (fun o => .if_icmp .ne o) 25 21 := ⟨7, by decide +kernel, by decide, rfl⟩
theorem dX7_heeds_21 : zD cX7_heeds 21 (.iconst 0) 1 22 := ⟨by decide +kernel, rfl⟩
theorem dX7_heeds_22 : zG cX7_heeds 22 26 := ⟨4, by decide +kernel, by decide⟩
theorem dX7_heeds_25 : zD cX7_heeds 25 (.iconst 1) 1 26 := ⟨by decide +kernel, rfl⟩
theorem dX7_heeds_26 : zD cX7_heeds 26 (.ireturn) 1 27 := ⟨by decide +kernel, rfl⟩
theorem dX7_fieldGoes_0 : zD cX7_fieldGoes 0 (.aload_n 0) 1 1 := ⟨by decide +kernel, rfl⟩
theorem dX7_fieldGoes_1 : zD cX7_fieldGoes 1 (.iload_n 1) 1 2 := ⟨by decide +kernel, rfl⟩
theorem dX7_fieldGoes_2 : zD cX7_fieldGoes 2 (.invokevirtual 144) 3 5 := ⟨by decide +kernel, rfl⟩
theorem dX7_fieldGoes_5 : zD cX7_fieldGoes 5 (.istore_n 2) 1 6 := ⟨by decide +kernel, rfl⟩
theorem dX7_fieldGoes_6 : zD cX7_fieldGoes 6 (.aload_n 0) 1 7 := ⟨by decide +kernel, rfl⟩
theorem dX7_fieldGoes_7 : zD cX7_fieldGoes 7 (.iload_n 1) 1 8 := ⟨by decide +kernel, rfl⟩
theorem dX7_fieldGoes_8 : zD cX7_fieldGoes 8 (.iconst 1) 1 9 := ⟨by decide +kernel, rfl⟩
theorem dX7_fieldGoes_9 : zD cX7_fieldGoes 9 (.aload_n 0) 1 10 := ⟨by decide +kernel, rfl⟩
theorem dX7_fieldGoes_10 : zD cX7_fieldGoes 10 (.iload_n 1) 1 11 := ⟨by decide +kernel, rfl⟩
theorem dX7_fieldGoes_11 : zD cX7_fieldGoes 11 (.iconst 1) 1 12 := ⟨by decide +kernel, rfl⟩
theorem dX7_fieldGoes_12 : zD cX7_fieldGoes 12 (.invokevirtual 147) 3 15 := ⟨by decide +kernel, rfl⟩
theorem dX7_fieldGoes_15 : zD cX7_fieldGoes 15 (.aload_n 0) 1 16 := ⟨by decide +kernel, rfl⟩
theorem dX7_fieldGoes_16 : zD cX7_fieldGoes 16 (.iload_n 1) 1 17 := ⟨by decide +kernel, rfl⟩
theorem dX7_fieldGoes_17 : zD cX7_fieldGoes 17 (.invokevirtual 150) 3 20 := ⟨by decide +kernel, rfl⟩
theorem dX7_fieldGoes_20 : zD cX7_fieldGoes 20 (.iadd) 1 21 := ⟨by decide +kernel, rfl⟩
theorem dX7_fieldGoes_21 : zD cX7_fieldGoes 21 (.bipush 99) 2 23 := ⟨by decide +kernel, rfl⟩
theorem dX7_fieldGoes_23 : zD cX7_fieldGoes 23 (.invokestatic 153) 3 26 := ⟨by decide +kernel, rfl⟩
theorem dX7_fieldGoes_26 : zD cX7_fieldGoes 26 (.invokevirtual 156) 3 29 := ⟨by decide +kernel, rfl⟩
theorem dX7_fieldGoes_29 : zD cX7_fieldGoes 29 (.iload_n 2) 1 30 := ⟨by decide +kernel, rfl⟩
theorem dX7_fieldGoes_30 : zJ cX7_fieldGoes 30 (fun o => .ifCond .le o) 107 33 := ⟨77, by decide +kernel, by decide, rfl⟩
theorem dX7_fieldGoes_33 : zD cX7_fieldGoes 33 (.aload_n 0) 1 34 := ⟨by decide +kernel, rfl⟩
theorem dX7_fieldGoes_34 : zD cX7_fieldGoes 34 (.iload_n 1) 1 35 := ⟨by decide +kernel, rfl⟩
theorem dX7_fieldGoes_35 : zD cX7_fieldGoes 35 (.iconst 2) 1 36 := ⟨by decide +kernel, rfl⟩
theorem dX7_fieldGoes_36 : zD cX7_fieldGoes 36 (.aload_n 0) 1 37 := ⟨by decide +kernel, rfl⟩
theorem dX7_fieldGoes_37 : zD cX7_fieldGoes 37 (.iload_n 1) 1 38 := ⟨by decide +kernel, rfl⟩
theorem dX7_fieldGoes_38 : zD cX7_fieldGoes 38 (.iconst 2) 1 39 := ⟨by decide +kernel, rfl⟩
theorem dX7_fieldGoes_39 : zD cX7_fieldGoes 39 (.invokevirtual 147) 3 42 := ⟨by decide +kernel, rfl⟩
theorem dX7_fieldGoes_42 : zD cX7_fieldGoes 42 (.aload_n 0) 1 43 := ⟨by decide +kernel, rfl⟩
theorem dX7_fieldGoes_43 : zD cX7_fieldGoes 43 (.iload_n 1) 1 44 := ⟨by decide +kernel, rfl⟩
theorem dX7_fieldGoes_44 : zD cX7_fieldGoes 44 (.invokevirtual 160) 3 47 := ⟨by decide +kernel, rfl⟩
theorem dX7_fieldGoes_47 : zD cX7_fieldGoes 47 (.isub) 1 48 := ⟨by decide +kernel, rfl⟩
theorem dX7_fieldGoes_48 : zD cX7_fieldGoes 48 (.bipush 9) 2 50 := ⟨by decide +kernel, rfl⟩
theorem dX7_fieldGoes_50 : zD cX7_fieldGoes 50 (.invokestatic 153) 3 53 := ⟨by decide +kernel, rfl⟩
theorem dX7_fieldGoes_53 : zD cX7_fieldGoes 53 (.invokevirtual 156) 3 56 := ⟨by decide +kernel, rfl⟩
theorem dX7_fieldGoes_56 : zD cX7_fieldGoes 56 (.aload_n 0) 1 57 := ⟨by decide +kernel, rfl⟩
theorem dX7_fieldGoes_57 : zD cX7_fieldGoes 57 (.iload_n 1) 1 58 := ⟨by decide +kernel, rfl⟩
theorem dX7_fieldGoes_58 : zD cX7_fieldGoes 58 (.iconst 1) 1 59 := ⟨by decide +kernel, rfl⟩
theorem dX7_fieldGoes_59 : zD cX7_fieldGoes 59 (.invokevirtual 147) 3 62 := ⟨by decide +kernel, rfl⟩
theorem dX7_fieldGoes_62 : zD cX7_fieldGoes 62 (.aload_n 0) 1 63 := ⟨by decide +kernel, rfl⟩
theorem dX7_fieldGoes_63 : zD cX7_fieldGoes 63 (.getfield 13) 3 66 := ⟨by decide +kernel, rfl⟩
theorem dX7_fieldGoes_66 : zD cX7_fieldGoes 66 (.bipush 28) 2 68 := ⟨by decide +kernel, rfl⟩
theorem dX7_fieldGoes_68 : zD cX7_fieldGoes 68 (.iaload) 1 69 := ⟨by decide +kernel, rfl⟩
theorem dX7_fieldGoes_69 : zJ cX7_fieldGoes 69 (fun o => .if_icmp .lt o) 156 72 := ⟨87, by decide +kernel, by decide, rfl⟩
theorem dX7_fieldGoes_72 : zD cX7_fieldGoes 72 (.aload_n 0) 1 73 := ⟨by decide +kernel, rfl⟩
theorem dX7_fieldGoes_73 : zD cX7_fieldGoes 73 (.dup) 1 74 := ⟨by decide +kernel, rfl⟩
theorem dX7_fieldGoes_74 : zD cX7_fieldGoes 74 (.getfield 138) 3 77 := ⟨by decide +kernel, rfl⟩
theorem dX7_fieldGoes_77 : zD cX7_fieldGoes 77 (.iconst 1) 1 78 := ⟨by decide +kernel, rfl⟩
theorem dX7_fieldGoes_78 : zD cX7_fieldGoes 78 (.iadd) 1 79 := ⟨by decide +kernel, rfl⟩
theorem dX7_fieldGoes_79 : zD cX7_fieldGoes 79 (.putfield 138) 3 82 := ⟨by decide +kernel, rfl⟩
theorem dX7_fieldGoes_82 : zD cX7_fieldGoes 82 (.aload_n 0) 1 83 := ⟨by decide +kernel, rfl⟩
theorem dX7_fieldGoes_83 : zD cX7_fieldGoes 83 (.getfield 13) 3 86 := ⟨by decide +kernel, rfl⟩
theorem dX7_fieldGoes_86 : zD cX7_fieldGoes 86 (.bipush 29) 2 88 := ⟨by decide +kernel, rfl⟩
theorem dX7_fieldGoes_88 : zD cX7_fieldGoes 88 (.aload_n 0) 1 89 := ⟨by decide +kernel, rfl⟩
theorem dX7_fieldGoes_89 : zD cX7_fieldGoes 89 (.getfield 13) 3 92 := ⟨by decide +kernel, rfl⟩
theorem dX7_fieldGoes_92 : zD cX7_fieldGoes 92 (.bipush 29) 2 94 := ⟨by decide +kernel, rfl⟩
theorem dX7_fieldGoes_94 : zD cX7_fieldGoes 94 (.iaload) 1 95 := ⟨by decide +kernel, rfl⟩
theorem dX7_fieldGoes_95 : zD cX7_fieldGoes 95 (.iconst 1) 1 96 := ⟨by decide +kernel, rfl⟩
theorem dX7_fieldGoes_96 : zD cX7_fieldGoes 96 (.isub) 1 97 := ⟨by decide +kernel, rfl⟩
theorem dX7_fieldGoes_97 : zD cX7_fieldGoes 97 (.sipush 999) 3 100 := ⟨by decide +kernel, rfl⟩
theorem dX7_fieldGoes_100 : zD cX7_fieldGoes 100 (.invokestatic 153) 3 103 := ⟨by decide +kernel, rfl⟩
theorem dX7_fieldGoes_103 : zD cX7_fieldGoes 103 (.iastore) 1 104 := ⟨by decide +kernel, rfl⟩
theorem dX7_fieldGoes_104 : zG cX7_fieldGoes 104 156 := ⟨52, by decide +kernel, by decide⟩
theorem dX7_fieldGoes_107 : zD cX7_fieldGoes 107 (.aload_n 0) 1 108 := ⟨by decide +kernel, rfl⟩
theorem dX7_fieldGoes_108 : zD cX7_fieldGoes 108 (.iload_n 1) 1 109 := ⟨by decide +kernel, rfl⟩
theorem dX7_fieldGoes_109 : zD cX7_fieldGoes 109 (.iconst 2) 1 110 := ⟨by decide +kernel, rfl⟩
theorem dX7_fieldGoes_110 : zD cX7_fieldGoes 110 (.aload_n 0) 1 111 := ⟨by decide +kernel, rfl⟩
theorem dX7_fieldGoes_111 : zD cX7_fieldGoes 111 (.iload_n 1) 1 112 := ⟨by decide +kernel, rfl⟩
theorem dX7_fieldGoes_112 : zD cX7_fieldGoes 112 (.iconst 2) 1 113 := ⟨by decide +kernel, rfl⟩
theorem dX7_fieldGoes_113 : zD cX7_fieldGoes 113 (.invokevirtual 147) 3 116 := ⟨by decide +kernel, rfl⟩
theorem dX7_fieldGoes_116 : zD cX7_fieldGoes 116 (.iconst 1) 1 117 := ⟨by decide +kernel, rfl⟩
theorem dX7_fieldGoes_117 : zD cX7_fieldGoes 117 (.iadd) 1 118 := ⟨by decide +kernel, rfl⟩
theorem dX7_fieldGoes_118 : zD cX7_fieldGoes 118 (.bipush 9) 2 120 := ⟨by decide +kernel, rfl⟩
theorem dX7_fieldGoes_120 : zD cX7_fieldGoes 120 (.invokestatic 153) 3 123 := ⟨by decide +kernel, rfl⟩
theorem dX7_fieldGoes_123 : zD cX7_fieldGoes 123 (.invokevirtual 156) 3 126 := ⟨by decide +kernel, rfl⟩
theorem dX7_fieldGoes_126 : zD cX7_fieldGoes 126 (.aload_n 0) 1 127 := ⟨by decide +kernel, rfl⟩
theorem dX7_fieldGoes_127 : zD cX7_fieldGoes 127 (.getfield 13) 3 130 := ⟨by decide +kernel, rfl⟩
theorem dX7_fieldGoes_130 : zD cX7_fieldGoes 130 (.bipush 29) 2 132 := ⟨by decide +kernel, rfl⟩
theorem dX7_fieldGoes_132 : zD cX7_fieldGoes 132 (.aload_n 0) 1 133 := ⟨by decide +kernel, rfl⟩
theorem dX7_fieldGoes_133 : zD cX7_fieldGoes 133 (.getfield 13) 3 136 := ⟨by decide +kernel, rfl⟩
theorem dX7_fieldGoes_136 : zD cX7_fieldGoes 136 (.bipush 29) 2 138 := ⟨by decide +kernel, rfl⟩
theorem dX7_fieldGoes_138 : zD cX7_fieldGoes 138 (.iaload) 1 139 := ⟨by decide +kernel, rfl⟩
theorem dX7_fieldGoes_139 : zD cX7_fieldGoes 139 (.aload_n 0) 1 140 := ⟨by decide +kernel, rfl⟩
theorem dX7_fieldGoes_140 : zD cX7_fieldGoes 140 (.iload_n 1) 1 141 := ⟨by decide +kernel, rfl⟩
theorem dX7_fieldGoes_141 : zD cX7_fieldGoes 141 (.iconst 1) 1 142 := ⟨by decide +kernel, rfl⟩
theorem dX7_fieldGoes_142 : zD cX7_fieldGoes 142 (.invokevirtual 147) 3 145 := ⟨by decide +kernel, rfl⟩
theorem dX7_fieldGoes_145 : zD cX7_fieldGoes 145 (.bipush 10) 2 147 := ⟨by decide +kernel, rfl⟩
theorem dX7_fieldGoes_147 : zD cX7_fieldGoes 147 (.idiv) 1 148 := ⟨by decide +kernel, rfl⟩
theorem dX7_fieldGoes_148 : zD cX7_fieldGoes 148 (.iadd) 1 149 := ⟨by decide +kernel, rfl⟩
theorem dX7_fieldGoes_149 : zD cX7_fieldGoes 149 (.sipush 999) 3 152 := ⟨by decide +kernel, rfl⟩
theorem dX7_fieldGoes_152 : zD cX7_fieldGoes 152 (.invokestatic 153) 3 155 := ⟨by decide +kernel, rfl⟩
theorem dX7_fieldGoes_155 : zD cX7_fieldGoes 155 (.iastore) 1 156 := ⟨by decide +kernel, rfl⟩
theorem dX7_fieldGoes_156 : zD cX7_fieldGoes 156 (.return_) 1 157 := ⟨by decide +kernel, rfl⟩
theorem dX7_weekGoes_0 : zD cX7_weekGoes 0 (.iconst 0) 1 1 := ⟨by decide +kernel, rfl⟩
theorem dX7_weekGoes_1 : zD cX7_weekGoes 1 (.istore_n 2) 1 2 := ⟨by decide +kernel, rfl⟩
theorem dX7_weekGoes_2 : zD cX7_weekGoes 2 (.iload_n 2) 1 3 := ⟨by decide +kernel, rfl⟩
theorem dX7_weekGoes_3 : zD cX7_weekGoes 3 (.aload_n 0) 1 4 := ⟨by decide +kernel, rfl⟩
theorem dX7_weekGoes_4 : zD cX7_weekGoes 4 (.getfield 13) 3 7 := ⟨by decide +kernel, rfl⟩
theorem dX7_weekGoes_7 : zD cX7_weekGoes 7 (.bipush 18) 2 9 := ⟨by decide +kernel, rfl⟩
theorem dX7_weekGoes_9 : zD cX7_weekGoes 9 (.iaload) 1 10 := ⟨by decide +kernel, rfl⟩
theorem dX7_weekGoes_10 : zJ cX7_weekGoes 10 (fun o => .if_icmp .ge o) 42 13 := ⟨32, by decide +kernel, by decide, rfl⟩
theorem dX7_weekGoes_13 : zD cX7_weekGoes 13 (.iload_n 1) 1 14 := ⟨by decide +kernel, rfl⟩
theorem dX7_weekGoes_14 : zJ cX7_weekGoes 14 (fun o => .ifCond .eq o) 42 17 := ⟨28, by decide +kernel, by decide, rfl⟩
theorem dX7_weekGoes_17 : zD cX7_weekGoes 17 (.aload_n 0) 1 18 := ⟨by decide +kernel, rfl⟩
theorem dX7_weekGoes_18 : zD cX7_weekGoes 18 (.iload_n 2) 1 19 := ⟨by decide +kernel, rfl⟩
theorem dX7_weekGoes_19 : zD cX7_weekGoes 19 (.iconst 2) 1 20 := ⟨by decide +kernel, rfl⟩
theorem dX7_weekGoes_20 : zD cX7_weekGoes 20 (.aload_n 0) 1 21 := ⟨by decide +kernel, rfl⟩
theorem dX7_weekGoes_21 : zD cX7_weekGoes 21 (.iload_n 2) 1 22 := ⟨by decide +kernel, rfl⟩
theorem dX7_weekGoes_22 : zD cX7_weekGoes 22 (.iconst 2) 1 23 := ⟨by decide +kernel, rfl⟩
theorem dX7_weekGoes_23 : zD cX7_weekGoes 23 (.invokevirtual 147) 3 26 := ⟨by decide +kernel, rfl⟩
theorem dX7_weekGoes_26 : zD cX7_weekGoes 26 (.iconst 2) 1 27 := ⟨by decide +kernel, rfl⟩
theorem dX7_weekGoes_27 : zD cX7_weekGoes 27 (.iadd) 1 28 := ⟨by decide +kernel, rfl⟩
theorem dX7_weekGoes_28 : zD cX7_weekGoes 28 (.bipush 9) 2 30 := ⟨by decide +kernel, rfl⟩
theorem dX7_weekGoes_30 : zD cX7_weekGoes 30 (.invokestatic 153) 3 33 := ⟨by decide +kernel, rfl⟩
theorem dX7_weekGoes_33 : zD cX7_weekGoes 33 (.invokevirtual 156) 3 36 := ⟨by decide +kernel, rfl⟩
theorem dX7_weekGoes_36 : zD cX7_weekGoes 36 (.iinc 2 1) 3 39 := ⟨by decide +kernel, rfl⟩
theorem dX7_weekGoes_39 : zG cX7_weekGoes 39 2 := ⟨(-37), by decide +kernel, by decide⟩
theorem dX7_weekGoes_42 : zD cX7_weekGoes 42 (.iconst 0) 1 43 := ⟨by decide +kernel, rfl⟩
theorem dX7_weekGoes_43 : zD cX7_weekGoes 43 (.istore_n 2) 1 44 := ⟨by decide +kernel, rfl⟩
theorem dX7_weekGoes_44 : zD cX7_weekGoes 44 (.iload_n 2) 1 45 := ⟨by decide +kernel, rfl⟩
theorem dX7_weekGoes_45 : zD cX7_weekGoes 45 (.aload_n 0) 1 46 := ⟨by decide +kernel, rfl⟩
theorem dX7_weekGoes_46 : zD cX7_weekGoes 46 (.getfield 13) 3 49 := ⟨by decide +kernel, rfl⟩
theorem dX7_weekGoes_49 : zD cX7_weekGoes 49 (.bipush 18) 2 51 := ⟨by decide +kernel, rfl⟩
theorem dX7_weekGoes_51 : zD cX7_weekGoes 51 (.iaload) 1 52 := ⟨by decide +kernel, rfl⟩
theorem dX7_weekGoes_52 : zJ cX7_weekGoes 52 (fun o => .if_icmp .ge o) 66 55 := ⟨14, by decide +kernel, by decide, rfl⟩
theorem dX7_weekGoes_55 : zD cX7_weekGoes 55 (.aload_n 0) 1 56 := ⟨by decide +kernel, rfl⟩
theorem dX7_weekGoes_56 : zD cX7_weekGoes 56 (.iload_n 2) 1 57 := ⟨by decide +kernel, rfl⟩
theorem dX7_weekGoes_57 : zD cX7_weekGoes 57 (.invokevirtual 163) 3 60 := ⟨by decide +kernel, rfl⟩
theorem dX7_weekGoes_60 : zD cX7_weekGoes 60 (.iinc 2 1) 3 63 := ⟨by decide +kernel, rfl⟩
theorem dX7_weekGoes_63 : zG cX7_weekGoes 63 44 := ⟨(-19), by decide +kernel, by decide⟩
theorem dX7_weekGoes_66 : zD cX7_weekGoes 66 (.aload_n 0) 1 67 := ⟨by decide +kernel, rfl⟩
theorem dX7_weekGoes_67 : zD cX7_weekGoes 67 (.getfield 13) 3 70 := ⟨by decide +kernel, rfl⟩
theorem dX7_weekGoes_70 : zD cX7_weekGoes 70 (.bipush 30) 2 72 := ⟨by decide +kernel, rfl⟩
theorem dX7_weekGoes_72 : zD cX7_weekGoes 72 (.dup2) 1 73 := ⟨by decide +kernel, rfl⟩
theorem dX7_weekGoes_73 : zD cX7_weekGoes 73 (.iaload) 1 74 := ⟨by decide +kernel, rfl⟩
theorem dX7_weekGoes_74 : zD cX7_weekGoes 74 (.iconst 1) 1 75 := ⟨by decide +kernel, rfl⟩
theorem dX7_weekGoes_75 : zD cX7_weekGoes 75 (.iadd) 1 76 := ⟨by decide +kernel, rfl⟩
theorem dX7_weekGoes_76 : zD cX7_weekGoes 76 (.iastore) 1 77 := ⟨by decide +kernel, rfl⟩
theorem dX7_weekGoes_77 : zD cX7_weekGoes 77 (.return_) 1 78 := ⟨by decide +kernel, rfl⟩
theorem dX7_weeksGo_0 : zD cX7_weeksGo 0 (.iconst 0) 1 1 := ⟨by decide +kernel, rfl⟩
theorem dX7_weeksGo_1 : zD cX7_weeksGo 1 (.istore_n 2) 1 2 := ⟨by decide +kernel, rfl⟩
theorem dX7_weeksGo_2 : zD cX7_weeksGo 2 (.iload_n 2) 1 3 := ⟨by decide +kernel, rfl⟩
theorem dX7_weeksGo_3 : zD cX7_weeksGo 3 (.iload_n 1) 1 4 := ⟨by decide +kernel, rfl⟩
theorem dX7_weeksGo_4 : zJ cX7_weeksGo 4 (fun o => .if_icmp .ge o) 18 7 := ⟨14, by decide +kernel, by decide, rfl⟩
theorem dX7_weeksGo_7 : zD cX7_weeksGo 7 (.aload_n 0) 1 8 := ⟨by decide +kernel, rfl⟩
theorem dX7_weeksGo_8 : zD cX7_weeksGo 8 (.iconst 0) 1 9 := ⟨by decide +kernel, rfl⟩
theorem dX7_weeksGo_9 : zD cX7_weeksGo 9 (.invokevirtual 166) 3 12 := ⟨by decide +kernel, rfl⟩
theorem dX7_weeksGo_12 : zD cX7_weeksGo 12 (.iinc 2 1) 3 15 := ⟨by decide +kernel, rfl⟩
theorem dX7_weeksGo_15 : zG cX7_weeksGo 15 2 := ⟨(-13), by decide +kernel, by decide⟩
theorem dX7_weeksGo_18 : zD cX7_weeksGo 18 (.return_) 1 19 := ⟨by decide +kernel, rfl⟩
theorem dX7_sumOf_0 : zD cX7_sumOf 0 (.iconst 0) 1 1 := ⟨by decide +kernel, rfl⟩
theorem dX7_sumOf_1 : zD cX7_sumOf 1 (.istore_n 2) 1 2 := ⟨by decide +kernel, rfl⟩
theorem dX7_sumOf_2 : zD cX7_sumOf 2 (.iconst 0) 1 3 := ⟨by decide +kernel, rfl⟩
theorem dX7_sumOf_3 : zD cX7_sumOf 3 (.istore_n 3) 1 4 := ⟨by decide +kernel, rfl⟩
theorem dX7_sumOf_4 : zD cX7_sumOf 4 (.iload_n 3) 1 5 := ⟨by decide +kernel, rfl⟩
theorem dX7_sumOf_5 : zD cX7_sumOf 5 (.aload_n 0) 1 6 := ⟨by decide +kernel, rfl⟩
theorem dX7_sumOf_6 : zD cX7_sumOf 6 (.getfield 13) 3 9 := ⟨by decide +kernel, rfl⟩
theorem dX7_sumOf_9 : zD cX7_sumOf 9 (.bipush 18) 2 11 := ⟨by decide +kernel, rfl⟩
theorem dX7_sumOf_11 : zD cX7_sumOf 11 (.iaload) 1 12 := ⟨by decide +kernel, rfl⟩
theorem dX7_sumOf_12 : zJ cX7_sumOf 12 (fun o => .if_icmp .ge o) 30 15 := ⟨18, by decide +kernel, by decide, rfl⟩
theorem dX7_sumOf_15 : zD cX7_sumOf 15 (.iload_n 2) 1 16 := ⟨by decide +kernel, rfl⟩
theorem dX7_sumOf_16 : zD cX7_sumOf 16 (.aload_n 0) 1 17 := ⟨by decide +kernel, rfl⟩
theorem dX7_sumOf_17 : zD cX7_sumOf 17 (.iload_n 3) 1 18 := ⟨by decide +kernel, rfl⟩
theorem dX7_sumOf_18 : zD cX7_sumOf 18 (.iload_n 1) 1 19 := ⟨by decide +kernel, rfl⟩
theorem dX7_sumOf_19 : zD cX7_sumOf 19 (.invokevirtual 147) 3 22 := ⟨by decide +kernel, rfl⟩
theorem dX7_sumOf_22 : zD cX7_sumOf 22 (.iadd) 1 23 := ⟨by decide +kernel, rfl⟩
theorem dX7_sumOf_23 : zD cX7_sumOf 23 (.istore_n 2) 1 24 := ⟨by decide +kernel, rfl⟩
theorem dX7_sumOf_24 : zD cX7_sumOf 24 (.iinc 3 1) 3 27 := ⟨by decide +kernel, rfl⟩
theorem dX7_sumOf_27 : zG cX7_sumOf 27 4 := ⟨(-23), by decide +kernel, by decide⟩
theorem dX7_sumOf_30 : zD cX7_sumOf 30 (.iload_n 2) 1 31 := ⟨by decide +kernel, rfl⟩
theorem dX7_sumOf_31 : zD cX7_sumOf 31 (.ireturn) 1 32 := ⟨by decide +kernel, rfl⟩
theorem dX7_earsBehind_0 : zD cX7_earsBehind 0 (.aload_n 0) 1 1 := ⟨by decide +kernel, rfl⟩
theorem dX7_earsBehind_1 : zD cX7_earsBehind 1 (.iload_n 1) 1 2 := ⟨by decide +kernel, rfl⟩
theorem dX7_earsBehind_2 : zD cX7_earsBehind 2 (.invokevirtual 170) 3 5 := ⟨by decide +kernel, rfl⟩
theorem dX7_earsBehind_5 : zD cX7_earsBehind 5 (.aload_n 0) 1 6 := ⟨by decide +kernel, rfl⟩
theorem dX7_earsBehind_6 : zD cX7_earsBehind 6 (.iconst 1) 1 7 := ⟨by decide +kernel, rfl⟩
theorem dX7_earsBehind_7 : zD cX7_earsBehind 7 (.invokevirtual 173) 3 10 := ⟨by decide +kernel, rfl⟩
theorem dX7_earsBehind_10 : zD cX7_earsBehind 10 (.ireturn) 1 11 := ⟨by decide +kernel, rfl⟩
theorem dX7_emptyNow_0 : zD cX7_emptyNow 0 (.iconst 0) 1 1 := ⟨by decide +kernel, rfl⟩
theorem dX7_emptyNow_1 : zD cX7_emptyNow 1 (.istore_n 1) 1 2 := ⟨by decide +kernel, rfl⟩
theorem dX7_emptyNow_2 : zD cX7_emptyNow 2 (.iconst 0) 1 3 := ⟨by decide +kernel, rfl⟩
theorem dX7_emptyNow_3 : zD cX7_emptyNow 3 (.istore_n 2) 1 4 := ⟨by decide +kernel, rfl⟩
theorem dX7_emptyNow_4 : zD cX7_emptyNow 4 (.iload_n 2) 1 5 := ⟨by decide +kernel, rfl⟩
theorem dX7_emptyNow_5 : zD cX7_emptyNow 5 (.aload_n 0) 1 6 := ⟨by decide +kernel, rfl⟩
theorem dX7_emptyNow_6 : zD cX7_emptyNow 6 (.getfield 13) 3 9 := ⟨by decide +kernel, rfl⟩
theorem dX7_emptyNow_9 : zD cX7_emptyNow 9 (.bipush 18) 2 11 := ⟨by decide +kernel, rfl⟩
theorem dX7_emptyNow_11 : zD cX7_emptyNow 11 (.iaload) 1 12 := ⟨by decide +kernel, rfl⟩
theorem dX7_emptyNow_12 : zJ cX7_emptyNow 12 (fun o => .if_icmp .ge o) 43 15 := ⟨31, by decide +kernel, by decide, rfl⟩
theorem dX7_emptyNow_15 : zD cX7_emptyNow 15 (.iload_n 1) 1 16 := ⟨by decide +kernel, rfl⟩
theorem dX7_emptyNow_16 : zD cX7_emptyNow 16 (.aload_n 0) 1 17 := ⟨by decide +kernel, rfl⟩
theorem dX7_emptyNow_17 : zD cX7_emptyNow 17 (.iload_n 2) 1 18 := ⟨by decide +kernel, rfl⟩
theorem dX7_emptyNow_18 : zD cX7_emptyNow 18 (.iconst 1) 1 19 := ⟨by decide +kernel, rfl⟩
theorem dX7_emptyNow_19 : zD cX7_emptyNow 19 (.invokevirtual 147) 3 22 := ⟨by decide +kernel, rfl⟩
theorem dX7_emptyNow_22 : zJ cX7_emptyNow 22 (fun o => .ifCond .ne o) 29 25 := ⟨7, by decide +kernel, by decide, rfl⟩
theorem dX7_emptyNow_25 : zD cX7_emptyNow 25 (.iconst 1) 1 26 := ⟨by decide +kernel, rfl⟩
theorem dX7_emptyNow_26 : zG cX7_emptyNow 26 30 := ⟨4, by decide +kernel, by decide⟩
theorem dX7_emptyNow_29 : zD cX7_emptyNow 29 (.iconst 0) 1 30 := ⟨by decide +kernel, rfl⟩
theorem dX7_emptyNow_30 : zD cX7_emptyNow 30 (.invokestatic 176) 3 33 := ⟨by decide +kernel, rfl⟩
theorem dX7_emptyNow_33 : zD cX7_emptyNow 33 (.iload_n 2) 1 34 := ⟨by decide +kernel, rfl⟩
theorem dX7_emptyNow_34 : zD cX7_emptyNow 34 (.ishl) 1 35 := ⟨by decide +kernel, rfl⟩
theorem dX7_emptyNow_35 : zD cX7_emptyNow 35 (.ior) 1 36 := ⟨by decide +kernel, rfl⟩
theorem dX7_emptyNow_36 : zD cX7_emptyNow 36 (.istore_n 1) 1 37 := ⟨by decide +kernel, rfl⟩
theorem dX7_emptyNow_37 : zD cX7_emptyNow 37 (.iinc 2 1) 3 40 := ⟨by decide +kernel, rfl⟩
theorem dX7_emptyNow_40 : zG cX7_emptyNow 40 4 := ⟨(-36), by decide +kernel, by decide⟩
theorem dX7_emptyNow_43 : zD cX7_emptyNow 43 (.iload_n 1) 1 44 := ⟨by decide +kernel, rfl⟩
theorem dX7_emptyNow_44 : zD cX7_emptyNow 44 (.ireturn) 1 45 := ⟨by decide +kernel, rfl⟩
theorem dX7_rule_0 : zD cX7_rule 0 (.iconst 0) 1 1 := ⟨by decide +kernel, rfl⟩
theorem dX7_rule_1 : zD cX7_rule 1 (.istore_n 2) 1 2 := ⟨by decide +kernel, rfl⟩
theorem dX7_rule_2 : zD cX7_rule 2 (.aload_n 0) 1 3 := ⟨by decide +kernel, rfl⟩
theorem dX7_rule_3 : zD cX7_rule 3 (.invokevirtual 180) 3 6 := ⟨by decide +kernel, rfl⟩
theorem dX7_rule_6 : zD cX7_rule 6 (.iconst 0) 1 7 := ⟨by decide +kernel, rfl⟩
theorem dX7_rule_7 : zD cX7_rule 7 (.istore_n 3) 1 8 := ⟨by decide +kernel, rfl⟩
theorem dX7_rule_8 : zD cX7_rule 8 (.iload_n 3) 1 9 := ⟨by decide +kernel, rfl⟩
theorem dX7_rule_9 : zD cX7_rule 9 (.aload_n 0) 1 10 := ⟨by decide +kernel, rfl⟩
theorem dX7_rule_10 : zD cX7_rule 10 (.getfield 7) 3 13 := ⟨by decide +kernel, rfl⟩
theorem dX7_rule_13 : zD cX7_rule 13 (.bipush 18) 2 15 := ⟨by decide +kernel, rfl⟩
theorem dX7_rule_15 : zD cX7_rule 15 (.iaload) 1 16 := ⟨by decide +kernel, rfl⟩
theorem dX7_rule_16 : zJ cX7_rule 16 (fun o => .if_icmp .ge o) 46 19 := ⟨30, by decide +kernel, by decide, rfl⟩
theorem dX7_rule_19 : zD cX7_rule 19 (.iload_n 2) 1 20 := ⟨by decide +kernel, rfl⟩
theorem dX7_rule_20 : zD cX7_rule 20 (.aload_n 0) 1 21 := ⟨by decide +kernel, rfl⟩
theorem dX7_rule_21 : zD cX7_rule 21 (.iload_n 3) 1 22 := ⟨by decide +kernel, rfl⟩
theorem dX7_rule_22 : zD cX7_rule 22 (.invokevirtual 144) 3 25 := ⟨by decide +kernel, rfl⟩
theorem dX7_rule_25 : zJ cX7_rule 25 (fun o => .ifCond .le o) 32 28 := ⟨7, by decide +kernel, by decide, rfl⟩
theorem dX7_rule_28 : zD cX7_rule 28 (.iconst 1) 1 29 := ⟨by decide +kernel, rfl⟩
theorem dX7_rule_29 : zG cX7_rule 29 33 := ⟨4, by decide +kernel, by decide⟩
theorem dX7_rule_32 : zD cX7_rule 32 (.iconst 0) 1 33 := ⟨by decide +kernel, rfl⟩
theorem dX7_rule_33 : zD cX7_rule 33 (.invokestatic 176) 3 36 := ⟨by decide +kernel, rfl⟩
theorem dX7_rule_36 : zD cX7_rule 36 (.iload_n 3) 1 37 := ⟨by decide +kernel, rfl⟩
theorem dX7_rule_37 : zD cX7_rule 37 (.ishl) 1 38 := ⟨by decide +kernel, rfl⟩
theorem dX7_rule_38 : zD cX7_rule 38 (.ior) 1 39 := ⟨by decide +kernel, rfl⟩
theorem dX7_rule_39 : zD cX7_rule 39 (.istore_n 2) 1 40 := ⟨by decide +kernel, rfl⟩
theorem dX7_rule_40 : zD cX7_rule 40 (.iinc 3 1) 3 43 := ⟨by decide +kernel, rfl⟩
theorem dX7_rule_43 : zG cX7_rule 43 8 := ⟨(-35), by decide +kernel, by decide⟩
theorem dX7_rule_46 : zD cX7_rule 46 (.iload_n 1) 1 47 := ⟨by decide +kernel, rfl⟩
theorem dX7_rule_47 : zD cX7_rule 47 (.tableswitch 89 0 6 #[41, 49, 57, 65, 73, 79, 87]) 41 88 := ⟨by decide +kernel, rfl⟩
theorem dX7_rule_88 : zD cX7_rule 88 (.aload_n 0) 1 89 := ⟨by decide +kernel, rfl⟩
theorem dX7_rule_89 : zD cX7_rule 89 (.getfield 7) 3 92 := ⟨by decide +kernel, rfl⟩
theorem dX7_rule_92 : zD cX7_rule 92 (.bipush 18) 2 94 := ⟨by decide +kernel, rfl⟩
theorem dX7_rule_94 : zD cX7_rule 94 (.iaload) 1 95 := ⟨by decide +kernel, rfl⟩
theorem dX7_rule_95 : zD cX7_rule 95 (.ireturn) 1 96 := ⟨by decide +kernel, rfl⟩
theorem dX7_rule_96 : zD cX7_rule 96 (.aload_n 0) 1 97 := ⟨by decide +kernel, rfl⟩
theorem dX7_rule_97 : zD cX7_rule 97 (.getfield 7) 3 100 := ⟨by decide +kernel, rfl⟩
theorem dX7_rule_100 : zD cX7_rule 100 (.bipush 27) 2 102 := ⟨by decide +kernel, rfl⟩
theorem dX7_rule_102 : zD cX7_rule 102 (.iaload) 1 103 := ⟨by decide +kernel, rfl⟩
theorem dX7_rule_103 : zD cX7_rule 103 (.ireturn) 1 104 := ⟨by decide +kernel, rfl⟩
theorem dX7_rule_104 : zD cX7_rule 104 (.aload_n 0) 1 105 := ⟨by decide +kernel, rfl⟩
theorem dX7_rule_105 : zD cX7_rule 105 (.getfield 7) 3 108 := ⟨by decide +kernel, rfl⟩
theorem dX7_rule_108 : zD cX7_rule 108 (.bipush 30) 2 110 := ⟨by decide +kernel, rfl⟩
theorem dX7_rule_110 : zD cX7_rule 110 (.iaload) 1 111 := ⟨by decide +kernel, rfl⟩
theorem dX7_rule_111 : zD cX7_rule 111 (.ireturn) 1 112 := ⟨by decide +kernel, rfl⟩
theorem dX7_rule_112 : zD cX7_rule 112 (.aload_n 0) 1 113 := ⟨by decide +kernel, rfl⟩
theorem dX7_rule_113 : zD cX7_rule 113 (.getfield 7) 3 116 := ⟨by decide +kernel, rfl⟩
theorem dX7_rule_116 : zD cX7_rule 116 (.bipush 29) 2 118 := ⟨by decide +kernel, rfl⟩
theorem dX7_rule_118 : zD cX7_rule 118 (.iaload) 1 119 := ⟨by decide +kernel, rfl⟩
theorem dX7_rule_119 : zD cX7_rule 119 (.ireturn) 1 120 := ⟨by decide +kernel, rfl⟩
theorem dX7_rule_120 : zD cX7_rule 120 (.aload_n 0) 1 121 := ⟨by decide +kernel, rfl⟩
theorem dX7_rule_121 : zD cX7_rule 121 (.iconst 1) 1 122 := ⟨by decide +kernel, rfl⟩
theorem dX7_rule_122 : zD cX7_rule 122 (.invokevirtual 173) 3 125 := ⟨by decide +kernel, rfl⟩
theorem dX7_rule_125 : zD cX7_rule 125 (.ireturn) 1 126 := ⟨by decide +kernel, rfl⟩
theorem dX7_rule_126 : zD cX7_rule 126 (.aload_n 0) 1 127 := ⟨by decide +kernel, rfl⟩
theorem dX7_rule_127 : zD cX7_rule 127 (.getfield 7) 3 130 := ⟨by decide +kernel, rfl⟩
theorem dX7_rule_130 : zD cX7_rule 130 (.bipush 28) 2 132 := ⟨by decide +kernel, rfl⟩
theorem dX7_rule_132 : zD cX7_rule 132 (.iaload) 1 133 := ⟨by decide +kernel, rfl⟩
theorem dX7_rule_133 : zD cX7_rule 133 (.ireturn) 1 134 := ⟨by decide +kernel, rfl⟩
theorem dX7_rule_134 : zD cX7_rule 134 (.iload_n 2) 1 135 := ⟨by decide +kernel, rfl⟩
theorem dX7_rule_135 : zD cX7_rule 135 (.ireturn) 1 136 := ⟨by decide +kernel, rfl⟩
theorem dX7_rule_136 : zD cX7_rule 136 (.iconst (-1)) 1 137 := ⟨by decide +kernel, rfl⟩
theorem dX7_rule_137 : zD cX7_rule 137 (.ireturn) 1 138 := ⟨by decide +kernel, rfl⟩
theorem dX7_field_0 : zD cX7_field 0 (.aload_n 0) 1 1 := ⟨by decide +kernel, rfl⟩
theorem dX7_field_1 : zD cX7_field 1 (.iload_n 1) 1 2 := ⟨by decide +kernel, rfl⟩
theorem dX7_field_2 : zD cX7_field 2 (.invokevirtual 183) 3 5 := ⟨by decide +kernel, rfl⟩
theorem dX7_field_5 : zJ cX7_field 5 (fun o => .ifCond .ne o) 10 8 := ⟨5, by decide +kernel, by decide, rfl⟩
theorem dX7_field_8 : zD cX7_field 8 (.iconst (-1)) 1 9 := ⟨by decide +kernel, rfl⟩
theorem dX7_field_9 : zD cX7_field 9 (.ireturn) 1 10 := ⟨by decide +kernel, rfl⟩
theorem dX7_field_10 : zD cX7_field 10 (.aload_n 0) 1 11 := ⟨by decide +kernel, rfl⟩
theorem dX7_field_11 : zD cX7_field 11 (.invokevirtual 180) 3 14 := ⟨by decide +kernel, rfl⟩
theorem dX7_field_14 : zD cX7_field 14 (.iload_n 2) 1 15 := ⟨by decide +kernel, rfl⟩
theorem dX7_field_15 : zD cX7_field 15 (.tableswitch 65 0 5 #[37, 37, 37, 44, 50, 59]) 37 52 := ⟨by decide +kernel, rfl⟩
theorem dX7_field_52 : zD cX7_field 52 (.aload_n 0) 1 53 := ⟨by decide +kernel, rfl⟩
theorem dX7_field_53 : zD cX7_field 53 (.iload_n 1) 1 54 := ⟨by decide +kernel, rfl⟩
theorem dX7_field_54 : zD cX7_field 54 (.iload_n 2) 1 55 := ⟨by decide +kernel, rfl⟩
theorem dX7_field_55 : zD cX7_field 55 (.invokevirtual 147) 3 58 := ⟨by decide +kernel, rfl⟩
theorem dX7_field_58 : zD cX7_field 58 (.ireturn) 1 59 := ⟨by decide +kernel, rfl⟩
theorem dX7_field_59 : zD cX7_field 59 (.aload_n 0) 1 60 := ⟨by decide +kernel, rfl⟩
theorem dX7_field_60 : zD cX7_field 60 (.iload_n 1) 1 61 := ⟨by decide +kernel, rfl⟩
theorem dX7_field_61 : zD cX7_field 61 (.invokevirtual 144) 3 64 := ⟨by decide +kernel, rfl⟩
theorem dX7_field_64 : zD cX7_field 64 (.ireturn) 1 65 := ⟨by decide +kernel, rfl⟩
theorem dX7_field_65 : zD cX7_field 65 (.bipush 80) 2 67 := ⟨by decide +kernel, rfl⟩
theorem dX7_field_67 : zD cX7_field 67 (.aload_n 0) 1 68 := ⟨by decide +kernel, rfl⟩
theorem dX7_field_68 : zD cX7_field 68 (.iload_n 1) 1 69 := ⟨by decide +kernel, rfl⟩
theorem dX7_field_69 : zD cX7_field 69 (.invokevirtual 150) 3 72 := ⟨by decide +kernel, rfl⟩
theorem dX7_field_72 : zD cX7_field 72 (.iadd) 1 73 := ⟨by decide +kernel, rfl⟩
theorem dX7_field_73 : zD cX7_field 73 (.ireturn) 1 74 := ⟨by decide +kernel, rfl⟩
theorem dX7_field_74 : zD cX7_field 74 (.aload_n 0) 1 75 := ⟨by decide +kernel, rfl⟩
theorem dX7_field_75 : zD cX7_field 75 (.iload_n 1) 1 76 := ⟨by decide +kernel, rfl⟩
theorem dX7_field_76 : zD cX7_field 76 (.invokevirtual 160) 3 79 := ⟨by decide +kernel, rfl⟩
theorem dX7_field_79 : zD cX7_field 79 (.ireturn) 1 80 := ⟨by decide +kernel, rfl⟩
theorem dX7_field_80 : zD cX7_field 80 (.iconst (-1)) 1 81 := ⟨by decide +kernel, rfl⟩
theorem dX7_field_81 : zD cX7_field 81 (.ireturn) 1 82 := ⟨by decide +kernel, rfl⟩
theorem dX7_band_0 : zD cX7_band 0 (.aload_n 0) 1 1 := ⟨by decide +kernel, rfl⟩
theorem dX7_band_1 : zD cX7_band 1 (.iload_n 1) 1 2 := ⟨by decide +kernel, rfl⟩
theorem dX7_band_2 : zD cX7_band 2 (.invokevirtual 187) 3 5 := ⟨by decide +kernel, rfl⟩
theorem dX7_band_5 : zJ cX7_band 5 (fun o => .ifCond .eq o) 31 8 := ⟨26, by decide +kernel, by decide, rfl⟩
theorem dX7_band_8 : zD cX7_band 8 (.iload_n 2) 1 9 := ⟨by decide +kernel, rfl⟩
theorem dX7_band_9 : zD cX7_band 9 (.invokestatic 190) 3 12 := ⟨by decide +kernel, rfl⟩
theorem dX7_band_12 : zJ cX7_band 12 (fun o => .ifCond .eq o) 31 15 := ⟨19, by decide +kernel, by decide, rfl⟩
theorem dX7_band_15 : zD cX7_band 15 (.aload_n 0) 1 16 := ⟨by decide +kernel, rfl⟩
theorem dX7_band_16 : zD cX7_band 16 (.getfield 7) 3 19 := ⟨by decide +kernel, rfl⟩
theorem dX7_band_19 : zD cX7_band 19 (.bipush 19) 2 21 := ⟨by decide +kernel, rfl⟩
theorem dX7_band_21 : zD cX7_band 21 (.iconst 2) 1 22 := ⟨by decide +kernel, rfl⟩
theorem dX7_band_22 : zD cX7_band 22 (.iload_n 1) 1 23 := ⟨by decide +kernel, rfl⟩
theorem dX7_band_23 : zD cX7_band 23 (.imul) 1 24 := ⟨by decide +kernel, rfl⟩
theorem dX7_band_24 : zD cX7_band 24 (.iadd) 1 25 := ⟨by decide +kernel, rfl⟩
theorem dX7_band_25 : zD cX7_band 25 (.iload_n 2) 1 26 := ⟨by decide +kernel, rfl⟩
theorem dX7_band_26 : zD cX7_band 26 (.iadd) 1 27 := ⟨by decide +kernel, rfl⟩
theorem dX7_band_27 : zD cX7_band 27 (.iaload) 1 28 := ⟨by decide +kernel, rfl⟩
theorem dX7_band_28 : zG cX7_band 28 32 := ⟨4, by decide +kernel, by decide⟩
theorem dX7_band_31 : zD cX7_band 31 (.iconst (-1)) 1 32 := ⟨by decide +kernel, rfl⟩
theorem dX7_band_32 : zD cX7_band 32 (.ireturn) 1 33 := ⟨by decide +kernel, rfl⟩
theorem dX7_becomes_0 : zD cX7_becomes 0 (.aload_n 0) 1 1 := ⟨by decide +kernel, rfl⟩
theorem dX7_becomes_1 : zD cX7_becomes 1 (.getfield 7) 3 4 := ⟨by decide +kernel, rfl⟩
theorem dX7_becomes_4 : zD cX7_becomes 4 (.iload_n 1) 1 5 := ⟨by decide +kernel, rfl⟩
theorem dX7_becomes_5 : zD cX7_becomes 5 (.iaload) 1 6 := ⟨by decide +kernel, rfl⟩
theorem dX7_becomes_6 : zD cX7_becomes 6 (.istore_n 3) 1 7 := ⟨by decide +kernel, rfl⟩
theorem dX7_becomes_7 : zD cX7_becomes 7 (.aload_n 0) 1 8 := ⟨by decide +kernel, rfl⟩
theorem dX7_becomes_8 : zD cX7_becomes 8 (.getfield 7) 3 11 := ⟨by decide +kernel, rfl⟩
theorem dX7_becomes_11 : zD cX7_becomes 11 (.iload_n 1) 1 12 := ⟨by decide +kernel, rfl⟩
theorem dX7_becomes_12 : zD cX7_becomes 12 (.iload_n 2) 1 13 := ⟨by decide +kernel, rfl⟩
theorem dX7_becomes_13 : zD cX7_becomes 13 (.iastore) 1 14 := ⟨by decide +kernel, rfl⟩
theorem dX7_becomes_14 : zD cX7_becomes 14 (.iload_n 3) 1 15 := ⟨by decide +kernel, rfl⟩
theorem dX7_becomes_15 : zD cX7_becomes 15 (.ireturn) 1 16 := ⟨by decide +kernel, rfl⟩
theorem dX7_alter_0 : zD cX7_alter 0 (.iload_n 2) 1 1 := ⟨by decide +kernel, rfl⟩
theorem dX7_alter_1 : zJ cX7_alter 1 (fun o => .ifCond .ne o) 16 4 := ⟨15, by decide +kernel, by decide, rfl⟩
theorem dX7_alter_4 : zD cX7_alter 4 (.iload_n 3) 1 5 := ⟨by decide +kernel, rfl⟩
theorem dX7_alter_5 : zD cX7_alter 5 (.i2l) 1 6 := ⟨by decide +kernel, rfl⟩
theorem dX7_alter_6 : zD cX7_alter 6 (.lconst 0) 1 7 := ⟨by decide +kernel, rfl⟩
theorem dX7_alter_7 : zD cX7_alter 7 (.ldc2_w 193) 3 10 := ⟨by decide +kernel, rfl⟩
theorem dX7_alter_10 : zD cX7_alter 10 (.invokestatic 63) 3 13 := ⟨by decide +kernel, rfl⟩
theorem dX7_alter_13 : zG cX7_alter 13 50 := ⟨37, by decide +kernel, by decide⟩
theorem dX7_alter_16 : zD cX7_alter 16 (.iload_n 2) 1 17 := ⟨by decide +kernel, rfl⟩
theorem dX7_alter_17 : zD cX7_alter 17 (.iconst 1) 1 18 := ⟨by decide +kernel, rfl⟩
theorem dX7_alter_18 : zJ cX7_alter 18 (fun o => .if_icmp .ne o) 28 21 := ⟨10, by decide +kernel, by decide, rfl⟩
theorem dX7_alter_21 : zD cX7_alter 21 (.iload_n 3) 1 22 := ⟨by decide +kernel, rfl⟩
theorem dX7_alter_22 : zD cX7_alter 22 (.invokestatic 195) 3 25 := ⟨by decide +kernel, rfl⟩
theorem dX7_alter_25 : zG cX7_alter 25 50 := ⟨25, by decide +kernel, by decide⟩
theorem dX7_alter_28 : zD cX7_alter 28 (.iload_n 2) 1 29 := ⟨by decide +kernel, rfl⟩
theorem dX7_alter_29 : zD cX7_alter 29 (.iconst 2) 1 30 := ⟨by decide +kernel, rfl⟩
theorem dX7_alter_30 : zJ cX7_alter 30 (fun o => .if_icmp .ne o) 49 33 := ⟨19, by decide +kernel, by decide, rfl⟩
theorem dX7_alter_33 : zD cX7_alter 33 (.iload_n 3) 1 34 := ⟨by decide +kernel, rfl⟩
theorem dX7_alter_34 : zD cX7_alter 34 (.i2l) 1 35 := ⟨by decide +kernel, rfl⟩
theorem dX7_alter_35 : zD cX7_alter 35 (.lconst 0) 1 36 := ⟨by decide +kernel, rfl⟩
theorem dX7_alter_36 : zD cX7_alter 36 (.ldc2_w 198) 3 39 := ⟨by decide +kernel, rfl⟩
theorem dX7_alter_39 : zD cX7_alter 39 (.invokestatic 63) 3 42 := ⟨by decide +kernel, rfl⟩
theorem dX7_alter_42 : zJ cX7_alter 42 (fun o => .ifCond .eq o) 49 45 := ⟨7, by decide +kernel, by decide, rfl⟩
theorem dX7_alter_45 : zD cX7_alter 45 (.iconst 1) 1 46 := ⟨by decide +kernel, rfl⟩
theorem dX7_alter_46 : zG cX7_alter 46 50 := ⟨4, by decide +kernel, by decide⟩
theorem dX7_alter_49 : zD cX7_alter 49 (.iconst 0) 1 50 := ⟨by decide +kernel, rfl⟩
theorem dX7_alter_50 : zD cX7_alter 50 (.istore 4) 2 52 := ⟨by decide +kernel, rfl⟩
theorem dX7_alter_52 : zD cX7_alter 52 (.aload_n 0) 1 53 := ⟨by decide +kernel, rfl⟩
theorem dX7_alter_53 : zD cX7_alter 53 (.iload_n 1) 1 54 := ⟨by decide +kernel, rfl⟩
theorem dX7_alter_54 : zD cX7_alter 54 (.invokevirtual 183) 3 57 := ⟨by decide +kernel, rfl⟩
theorem dX7_alter_57 : zJ cX7_alter 57 (fun o => .ifCond .eq o) 78 60 := ⟨21, by decide +kernel, by decide, rfl⟩
theorem dX7_alter_60 : zD cX7_alter 60 (.iload 4) 2 62 := ⟨by decide +kernel, rfl⟩
theorem dX7_alter_62 : zJ cX7_alter 62 (fun o => .ifCond .eq o) 78 65 := ⟨16, by decide +kernel, by decide, rfl⟩
theorem dX7_alter_65 : zD cX7_alter 65 (.aload_n 0) 1 66 := ⟨by decide +kernel, rfl⟩
theorem dX7_alter_66 : zD cX7_alter 66 (.iconst 3) 1 67 := ⟨by decide +kernel, rfl⟩
theorem dX7_alter_67 : zD cX7_alter 67 (.iload_n 1) 1 68 := ⟨by decide +kernel, rfl⟩
theorem dX7_alter_68 : zD cX7_alter 68 (.imul) 1 69 := ⟨by decide +kernel, rfl⟩
theorem dX7_alter_69 : zD cX7_alter 69 (.iload_n 2) 1 70 := ⟨by decide +kernel, rfl⟩
theorem dX7_alter_70 : zD cX7_alter 70 (.iadd) 1 71 := ⟨by decide +kernel, rfl⟩
theorem dX7_alter_71 : zD cX7_alter 71 (.iload_n 3) 1 72 := ⟨by decide +kernel, rfl⟩
theorem dX7_alter_72 : zD cX7_alter 72 (.invokevirtual 200) 3 75 := ⟨by decide +kernel, rfl⟩
theorem dX7_alter_75 : zG cX7_alter 75 79 := ⟨4, by decide +kernel, by decide⟩
theorem dX7_alter_78 : zD cX7_alter 78 (.iconst (-1)) 1 79 := ⟨by decide +kernel, rfl⟩
theorem dX7_alter_79 : zD cX7_alter 79 (.ireturn) 1 80 := ⟨by decide +kernel, rfl⟩
theorem dX7_march_0 : zD cX7_march 0 (.aload_n 0) 1 1 := ⟨by decide +kernel, rfl⟩
theorem dX7_march_1 : zD cX7_march 1 (.iload_n 1) 1 2 := ⟨by decide +kernel, rfl⟩
theorem dX7_march_2 : zD cX7_march 2 (.invokevirtual 187) 3 5 := ⟨by decide +kernel, rfl⟩
theorem dX7_march_5 : zJ cX7_march 5 (fun o => .ifCond .eq o) 32 8 := ⟨27, by decide +kernel, by decide, rfl⟩
theorem dX7_march_8 : zD cX7_march 8 (.aload_n 0) 1 9 := ⟨by decide +kernel, rfl⟩
theorem dX7_march_9 : zD cX7_march 9 (.iload_n 2) 1 10 := ⟨by decide +kernel, rfl⟩
theorem dX7_march_10 : zD cX7_march 10 (.invokevirtual 183) 3 13 := ⟨by decide +kernel, rfl⟩
theorem dX7_march_13 : zJ cX7_march 13 (fun o => .ifCond .eq o) 32 16 := ⟨19, by decide +kernel, by decide, rfl⟩
theorem dX7_march_16 : zD cX7_march 16 (.aload_n 0) 1 17 := ⟨by decide +kernel, rfl⟩
theorem dX7_march_17 : zD cX7_march 17 (.bipush 19) 2 19 := ⟨by decide +kernel, rfl⟩
theorem dX7_march_19 : zD cX7_march 19 (.iconst 2) 1 20 := ⟨by decide +kernel, rfl⟩
theorem dX7_march_20 : zD cX7_march 20 (.iload_n 1) 1 21 := ⟨by decide +kernel, rfl⟩
theorem dX7_march_21 : zD cX7_march 21 (.imul) 1 22 := ⟨by decide +kernel, rfl⟩
theorem dX7_march_22 : zD cX7_march 22 (.iadd) 1 23 := ⟨by decide +kernel, rfl⟩
theorem dX7_march_23 : zD cX7_march 23 (.iconst 0) 1 24 := ⟨by decide +kernel, rfl⟩
theorem dX7_march_24 : zD cX7_march 24 (.iadd) 1 25 := ⟨by decide +kernel, rfl⟩
theorem dX7_march_25 : zD cX7_march 25 (.iload_n 2) 1 26 := ⟨by decide +kernel, rfl⟩
theorem dX7_march_26 : zD cX7_march 26 (.invokevirtual 200) 3 29 := ⟨by decide +kernel, rfl⟩
theorem dX7_march_29 : zG cX7_march 29 33 := ⟨4, by decide +kernel, by decide⟩
theorem dX7_march_32 : zD cX7_march 32 (.iconst (-1)) 1 33 := ⟨by decide +kernel, rfl⟩
theorem dX7_march_33 : zD cX7_march 33 (.ireturn) 1 34 := ⟨by decide +kernel, rfl⟩
theorem dX7_play_0 : zD cX7_play 0 (.aload_n 0) 1 1 := ⟨by decide +kernel, rfl⟩
theorem dX7_play_1 : zD cX7_play 1 (.iload_n 1) 1 2 := ⟨by decide +kernel, rfl⟩
theorem dX7_play_2 : zD cX7_play 2 (.invokevirtual 187) 3 5 := ⟨by decide +kernel, rfl⟩
theorem dX7_play_5 : zJ cX7_play 5 (fun o => .ifCond .eq o) 36 8 := ⟨31, by decide +kernel, by decide, rfl⟩
theorem dX7_play_8 : zD cX7_play 8 (.iload_n 2) 1 9 := ⟨by decide +kernel, rfl⟩
theorem dX7_play_9 : zD cX7_play 9 (.i2l) 1 10 := ⟨by decide +kernel, rfl⟩
theorem dX7_play_10 : zD cX7_play 10 (.lconst 1) 1 11 := ⟨by decide +kernel, rfl⟩
theorem dX7_play_11 : zD cX7_play 11 (.ldc2_w 198) 3 14 := ⟨by decide +kernel, rfl⟩
theorem dX7_play_14 : zD cX7_play 14 (.invokestatic 63) 3 17 := ⟨by decide +kernel, rfl⟩
theorem dX7_play_17 : zJ cX7_play 17 (fun o => .ifCond .eq o) 36 20 := ⟨19, by decide +kernel, by decide, rfl⟩
theorem dX7_play_20 : zD cX7_play 20 (.aload_n 0) 1 21 := ⟨by decide +kernel, rfl⟩
theorem dX7_play_21 : zD cX7_play 21 (.bipush 19) 2 23 := ⟨by decide +kernel, rfl⟩
theorem dX7_play_23 : zD cX7_play 23 (.iconst 2) 1 24 := ⟨by decide +kernel, rfl⟩
theorem dX7_play_24 : zD cX7_play 24 (.iload_n 1) 1 25 := ⟨by decide +kernel, rfl⟩
theorem dX7_play_25 : zD cX7_play 25 (.imul) 1 26 := ⟨by decide +kernel, rfl⟩
theorem dX7_play_26 : zD cX7_play 26 (.iadd) 1 27 := ⟨by decide +kernel, rfl⟩
theorem dX7_play_27 : zD cX7_play 27 (.iconst 1) 1 28 := ⟨by decide +kernel, rfl⟩
theorem dX7_play_28 : zD cX7_play 28 (.iadd) 1 29 := ⟨by decide +kernel, rfl⟩
theorem dX7_play_29 : zD cX7_play 29 (.iload_n 2) 1 30 := ⟨by decide +kernel, rfl⟩
theorem dX7_play_30 : zD cX7_play 30 (.invokevirtual 200) 3 33 := ⟨by decide +kernel, rfl⟩
theorem dX7_play_33 : zG cX7_play 33 37 := ⟨4, by decide +kernel, by decide⟩
theorem dX7_play_36 : zD cX7_play 36 (.iconst (-1)) 1 37 := ⟨by decide +kernel, rfl⟩
theorem dX7_play_37 : zD cX7_play 37 (.ireturn) 1 38 := ⟨by decide +kernel, rfl⟩
theorem dX7_glut_0 : zD cX7_glut 0 (.iload_n 1) 1 1 := ⟨by decide +kernel, rfl⟩
theorem dX7_glut_1 : zD cX7_glut 1 (.i2l) 1 2 := ⟨by decide +kernel, rfl⟩
theorem dX7_glut_2 : zD cX7_glut 2 (.lconst 1) 1 3 := ⟨by decide +kernel, rfl⟩
theorem dX7_glut_3 : zD cX7_glut 3 (.ldc2_w 133) 3 6 := ⟨by decide +kernel, rfl⟩
theorem dX7_glut_6 : zD cX7_glut 6 (.invokestatic 63) 3 9 := ⟨by decide +kernel, rfl⟩
theorem dX7_glut_9 : zJ cX7_glut 9 (fun o => .ifCond .eq o) 22 12 := ⟨13, by decide +kernel, by decide, rfl⟩
theorem dX7_glut_12 : zD cX7_glut 12 (.aload_n 0) 1 13 := ⟨by decide +kernel, rfl⟩
theorem dX7_glut_13 : zD cX7_glut 13 (.bipush 28) 2 15 := ⟨by decide +kernel, rfl⟩
theorem dX7_glut_15 : zD cX7_glut 15 (.iload_n 1) 1 16 := ⟨by decide +kernel, rfl⟩
theorem dX7_glut_16 : zD cX7_glut 16 (.invokevirtual 200) 3 19 := ⟨by decide +kernel, rfl⟩
theorem dX7_glut_19 : zG cX7_glut 19 23 := ⟨4, by decide +kernel, by decide⟩
theorem dX7_glut_22 : zD cX7_glut 22 (.iconst (-1)) 1 23 := ⟨by decide +kernel, rfl⟩
theorem dX7_glut_23 : zD cX7_glut 23 (.ireturn) 1 24 := ⟨by decide +kernel, rfl⟩
theorem dX7_hire_0 : zD cX7_hire 0 (.aload_n 0) 1 1 := ⟨by decide +kernel, rfl⟩
theorem dX7_hire_1 : zD cX7_hire 1 (.iload_n 1) 1 2 := ⟨by decide +kernel, rfl⟩
theorem dX7_hire_2 : zD cX7_hire 2 (.invokevirtual 183) 3 5 := ⟨by decide +kernel, rfl⟩
theorem dX7_hire_5 : zJ cX7_hire 5 (fun o => .ifCond .eq o) 20 8 := ⟨15, by decide +kernel, by decide, rfl⟩
theorem dX7_hire_8 : zD cX7_hire 8 (.iload_n 2) 1 9 := ⟨by decide +kernel, rfl⟩
theorem dX7_hire_9 : zD cX7_hire 9 (.i2l) 1 10 := ⟨by decide +kernel, rfl⟩
theorem dX7_hire_10 : zD cX7_hire 10 (.lconst 1) 1 11 := ⟨by decide +kernel, rfl⟩
theorem dX7_hire_11 : zD cX7_hire 11 (.ldc2_w 198) 3 14 := ⟨by decide +kernel, rfl⟩
theorem dX7_hire_14 : zD cX7_hire 14 (.invokestatic 63) 3 17 := ⟨by decide +kernel, rfl⟩
theorem dX7_hire_17 : zJ cX7_hire 17 (fun o => .ifCond .ne o) 22 20 := ⟨5, by decide +kernel, by decide, rfl⟩
theorem dX7_hire_20 : zD cX7_hire 20 (.iconst (-1)) 1 21 := ⟨by decide +kernel, rfl⟩
theorem dX7_hire_21 : zD cX7_hire 21 (.ireturn) 1 22 := ⟨by decide +kernel, rfl⟩
theorem dX7_hire_22 : zD cX7_hire 22 (.aload_n 0) 1 23 := ⟨by decide +kernel, rfl⟩
theorem dX7_hire_23 : zD cX7_hire 23 (.getfield 7) 3 26 := ⟨by decide +kernel, rfl⟩
theorem dX7_hire_26 : zD cX7_hire 26 (.bipush 27) 2 28 := ⟨by decide +kernel, rfl⟩
theorem dX7_hire_28 : zD cX7_hire 28 (.iaload) 1 29 := ⟨by decide +kernel, rfl⟩
theorem dX7_hire_29 : zD cX7_hire 29 (.iconst 4) 1 30 := ⟨by decide +kernel, rfl⟩
theorem dX7_hire_30 : zJ cX7_hire 30 (fun o => .if_icmp .ne o) 36 33 := ⟨6, by decide +kernel, by decide, rfl⟩
theorem dX7_hire_33 : zD cX7_hire 33 (.bipush (-3)) 2 35 := ⟨by decide +kernel, rfl⟩
theorem dX7_hire_35 : zD cX7_hire 35 (.ireturn) 1 36 := ⟨by decide +kernel, rfl⟩
theorem dX7_hire_36 : zD cX7_hire 36 (.aload_n 0) 1 37 := ⟨by decide +kernel, rfl⟩
theorem dX7_hire_37 : zD cX7_hire 37 (.getfield 7) 3 40 := ⟨by decide +kernel, rfl⟩
theorem dX7_hire_40 : zD cX7_hire 40 (.bipush 19) 2 42 := ⟨by decide +kernel, rfl⟩
theorem dX7_hire_42 : zD cX7_hire 42 (.iconst 2) 1 43 := ⟨by decide +kernel, rfl⟩
theorem dX7_hire_43 : zD cX7_hire 43 (.aload_n 0) 1 44 := ⟨by decide +kernel, rfl⟩
theorem dX7_hire_44 : zD cX7_hire 44 (.getfield 7) 3 47 := ⟨by decide +kernel, rfl⟩
theorem dX7_hire_47 : zD cX7_hire 47 (.bipush 27) 2 49 := ⟨by decide +kernel, rfl⟩
theorem dX7_hire_49 : zD cX7_hire 49 (.iaload) 1 50 := ⟨by decide +kernel, rfl⟩
theorem dX7_hire_50 : zD cX7_hire 50 (.imul) 1 51 := ⟨by decide +kernel, rfl⟩
theorem dX7_hire_51 : zD cX7_hire 51 (.iadd) 1 52 := ⟨by decide +kernel, rfl⟩
theorem dX7_hire_52 : zD cX7_hire 52 (.iconst 0) 1 53 := ⟨by decide +kernel, rfl⟩
theorem dX7_hire_53 : zD cX7_hire 53 (.iadd) 1 54 := ⟨by decide +kernel, rfl⟩
theorem dX7_hire_54 : zD cX7_hire 54 (.iload_n 1) 1 55 := ⟨by decide +kernel, rfl⟩
theorem dX7_hire_55 : zD cX7_hire 55 (.iastore) 1 56 := ⟨by decide +kernel, rfl⟩
theorem dX7_hire_56 : zD cX7_hire 56 (.aload_n 0) 1 57 := ⟨by decide +kernel, rfl⟩
theorem dX7_hire_57 : zD cX7_hire 57 (.getfield 7) 3 60 := ⟨by decide +kernel, rfl⟩
theorem dX7_hire_60 : zD cX7_hire 60 (.bipush 19) 2 62 := ⟨by decide +kernel, rfl⟩
theorem dX7_hire_62 : zD cX7_hire 62 (.iconst 2) 1 63 := ⟨by decide +kernel, rfl⟩
theorem dX7_hire_63 : zD cX7_hire 63 (.aload_n 0) 1 64 := ⟨by decide +kernel, rfl⟩
theorem dX7_hire_64 : zD cX7_hire 64 (.getfield 7) 3 67 := ⟨by decide +kernel, rfl⟩
theorem dX7_hire_67 : zD cX7_hire 67 (.bipush 27) 2 69 := ⟨by decide +kernel, rfl⟩
theorem dX7_hire_69 : zD cX7_hire 69 (.iaload) 1 70 := ⟨by decide +kernel, rfl⟩
theorem dX7_hire_70 : zD cX7_hire 70 (.imul) 1 71 := ⟨by decide +kernel, rfl⟩
theorem dX7_hire_71 : zD cX7_hire 71 (.iadd) 1 72 := ⟨by decide +kernel, rfl⟩
theorem dX7_hire_72 : zD cX7_hire 72 (.iconst 1) 1 73 := ⟨by decide +kernel, rfl⟩
theorem dX7_hire_73 : zD cX7_hire 73 (.iadd) 1 74 := ⟨by decide +kernel, rfl⟩
theorem dX7_hire_74 : zD cX7_hire 74 (.iload_n 2) 1 75 := ⟨by decide +kernel, rfl⟩
theorem dX7_hire_75 : zD cX7_hire 75 (.iastore) 1 76 := ⟨by decide +kernel, rfl⟩
theorem dX7_hire_76 : zD cX7_hire 76 (.aload_n 0) 1 77 := ⟨by decide +kernel, rfl⟩
theorem dX7_hire_77 : zD cX7_hire 77 (.getfield 7) 3 80 := ⟨by decide +kernel, rfl⟩
theorem dX7_hire_80 : zD cX7_hire 80 (.bipush 27) 2 82 := ⟨by decide +kernel, rfl⟩
theorem dX7_hire_82 : zD cX7_hire 82 (.dup2) 1 83 := ⟨by decide +kernel, rfl⟩
theorem dX7_hire_83 : zD cX7_hire 83 (.iaload) 1 84 := ⟨by decide +kernel, rfl⟩
theorem dX7_hire_84 : zD cX7_hire 84 (.iconst 1) 1 85 := ⟨by decide +kernel, rfl⟩
theorem dX7_hire_85 : zD cX7_hire 85 (.iadd) 1 86 := ⟨by decide +kernel, rfl⟩
theorem dX7_hire_86 : zD cX7_hire 86 (.iastore) 1 87 := ⟨by decide +kernel, rfl⟩
theorem dX7_hire_87 : zD cX7_hire 87 (.aload_n 0) 1 88 := ⟨by decide +kernel, rfl⟩
theorem dX7_hire_88 : zD cX7_hire 88 (.getfield 7) 3 91 := ⟨by decide +kernel, rfl⟩
theorem dX7_hire_91 : zD cX7_hire 91 (.bipush 27) 2 93 := ⟨by decide +kernel, rfl⟩
theorem dX7_hire_93 : zD cX7_hire 93 (.iaload) 1 94 := ⟨by decide +kernel, rfl⟩
theorem dX7_hire_94 : zD cX7_hire 94 (.ireturn) 1 95 := ⟨by decide +kernel, rfl⟩
theorem dX7_leave_0 : zD cX7_leave 0 (.iload_n 1) 1 1 := ⟨by decide +kernel, rfl⟩
theorem dX7_leave_1 : zD cX7_leave 1 (.i2l) 1 2 := ⟨by decide +kernel, rfl⟩
theorem dX7_leave_2 : zD cX7_leave 2 (.lconst 0) 1 3 := ⟨by decide +kernel, rfl⟩
theorem dX7_leave_3 : zD cX7_leave 3 (.aload_n 0) 1 4 := ⟨by decide +kernel, rfl⟩
theorem dX7_leave_4 : zD cX7_leave 4 (.getfield 7) 3 7 := ⟨by decide +kernel, rfl⟩
theorem dX7_leave_7 : zD cX7_leave 7 (.bipush 27) 2 9 := ⟨by decide +kernel, rfl⟩
theorem dX7_leave_9 : zD cX7_leave 9 (.iaload) 1 10 := ⟨by decide +kernel, rfl⟩
theorem dX7_leave_10 : zD cX7_leave 10 (.i2l) 1 11 := ⟨by decide +kernel, rfl⟩
theorem dX7_leave_11 : zD cX7_leave 11 (.invokestatic 63) 3 14 := ⟨by decide +kernel, rfl⟩
theorem dX7_leave_14 : zJ cX7_leave 14 (fun o => .ifCond .eq o) 27 17 := ⟨13, by decide +kernel, by decide, rfl⟩
theorem dX7_leave_17 : zD cX7_leave 17 (.aload_n 0) 1 18 := ⟨by decide +kernel, rfl⟩
theorem dX7_leave_18 : zD cX7_leave 18 (.bipush 27) 2 20 := ⟨by decide +kernel, rfl⟩
theorem dX7_leave_20 : zD cX7_leave 20 (.iload_n 1) 1 21 := ⟨by decide +kernel, rfl⟩
theorem dX7_leave_21 : zD cX7_leave 21 (.invokevirtual 200) 3 24 := ⟨by decide +kernel, rfl⟩
theorem dX7_leave_24 : zG cX7_leave 24 28 := ⟨4, by decide +kernel, by decide⟩
theorem dX7_leave_27 : zD cX7_leave 27 (.iconst (-1)) 1 28 := ⟨by decide +kernel, rfl⟩
theorem dX7_leave_28 : zD cX7_leave 28 (.ireturn) 1 29 := ⟨by decide +kernel, rfl⟩
theorem dX7_weeks_0 : zD cX7_weeks 0 (.iload_n 1) 1 1 := ⟨by decide +kernel, rfl⟩
theorem dX7_weeks_1 : zD cX7_weeks 1 (.i2l) 1 2 := ⟨by decide +kernel, rfl⟩
theorem dX7_weeks_2 : zD cX7_weeks 2 (.lconst 0) 1 3 := ⟨by decide +kernel, rfl⟩
theorem dX7_weeks_3 : zD cX7_weeks 3 (.ldc2_w 203) 3 6 := ⟨by decide +kernel, rfl⟩
theorem dX7_weeks_6 : zD cX7_weeks 6 (.invokestatic 63) 3 9 := ⟨by decide +kernel, rfl⟩
theorem dX7_weeks_9 : zJ cX7_weeks 9 (fun o => .ifCond .ne o) 14 12 := ⟨5, by decide +kernel, by decide, rfl⟩
theorem dX7_weeks_12 : zD cX7_weeks 12 (.iconst (-1)) 1 13 := ⟨by decide +kernel, rfl⟩
theorem dX7_weeks_13 : zD cX7_weeks 13 (.ireturn) 1 14 := ⟨by decide +kernel, rfl⟩
theorem dX7_weeks_14 : zD cX7_weeks 14 (.aload_n 0) 1 15 := ⟨by decide +kernel, rfl⟩
theorem dX7_weeks_15 : zD cX7_weeks 15 (.getfield 7) 3 18 := ⟨by decide +kernel, rfl⟩
theorem dX7_weeks_18 : zD cX7_weeks 18 (.bipush 30) 2 20 := ⟨by decide +kernel, rfl⟩
theorem dX7_weeks_20 : zD cX7_weeks 20 (.iaload) 1 21 := ⟨by decide +kernel, rfl⟩
theorem dX7_weeks_21 : zD cX7_weeks 21 (.iload_n 1) 1 22 := ⟨by decide +kernel, rfl⟩
theorem dX7_weeks_22 : zD cX7_weeks 22 (.iadd) 1 23 := ⟨by decide +kernel, rfl⟩
theorem dX7_weeks_23 : zD cX7_weeks 23 (.sipush 999) 3 26 := ⟨by decide +kernel, rfl⟩
theorem dX7_weeks_26 : zJ cX7_weeks 26 (fun o => .if_icmp .le o) 32 29 := ⟨6, by decide +kernel, by decide, rfl⟩
theorem dX7_weeks_29 : zD cX7_weeks 29 (.bipush (-3)) 2 31 := ⟨by decide +kernel, rfl⟩
theorem dX7_weeks_31 : zD cX7_weeks 31 (.ireturn) 1 32 := ⟨by decide +kernel, rfl⟩
theorem dX7_weeks_32 : zD cX7_weeks 32 (.aload_n 0) 1 33 := ⟨by decide +kernel, rfl⟩
theorem dX7_weeks_33 : zD cX7_weeks 33 (.invokevirtual 180) 3 36 := ⟨by decide +kernel, rfl⟩
theorem dX7_weeks_36 : zD cX7_weeks 36 (.aload_n 0) 1 37 := ⟨by decide +kernel, rfl⟩
theorem dX7_weeks_37 : zD cX7_weeks 37 (.iload_n 1) 1 38 := ⟨by decide +kernel, rfl⟩
theorem dX7_weeks_38 : zD cX7_weeks 38 (.invokevirtual 205) 3 41 := ⟨by decide +kernel, rfl⟩
theorem dX7_weeks_41 : zD cX7_weeks 41 (.istore_n 2) 1 42 := ⟨by decide +kernel, rfl⟩
theorem dX7_weeks_42 : zD cX7_weeks 42 (.aload_n 0) 1 43 := ⟨by decide +kernel, rfl⟩
theorem dX7_weeks_43 : zD cX7_weeks 43 (.invokevirtual 208) 3 46 := ⟨by decide +kernel, rfl⟩
theorem dX7_weeks_46 : zD cX7_weeks 46 (.iload_n 2) 1 47 := ⟨by decide +kernel, rfl⟩
theorem dX7_weeks_47 : zD cX7_weeks 47 (.ireturn) 1 48 := ⟨by decide +kernel, rfl⟩
theorem dX7_isFar_0 : zD cX7_isFar 0 (.iload_n 0) 1 1 := ⟨by decide +kernel, rfl⟩
theorem dX7_isFar_1 : zD cX7_isFar 1 (.i2l) 1 2 := ⟨by decide +kernel, rfl⟩
theorem dX7_isFar_2 : zD cX7_isFar 2 (.lconst 0) 1 3 := ⟨by decide +kernel, rfl⟩
theorem dX7_isFar_3 : zD cX7_isFar 3 (.ldc2_w 211) 3 6 := ⟨by decide +kernel, rfl⟩
theorem dX7_isFar_6 : zD cX7_isFar 6 (.invokestatic 63) 3 9 := ⟨by decide +kernel, rfl⟩
theorem dX7_isFar_9 : zD cX7_isFar 9 (.ireturn) 1 10 := ⟨by decide +kernel, rfl⟩
theorem dX7_runs_0 : zD cX7_runs 0 (.iload_n 1) 1 1 := ⟨by decide +kernel, rfl⟩
theorem dX7_runs_1 : zD cX7_runs 1 (.invokestatic 213) 3 4 := ⟨by decide +kernel, rfl⟩
theorem dX7_runs_4 : zJ cX7_runs 4 (fun o => .ifCond .eq o) 19 7 := ⟨15, by decide +kernel, by decide, rfl⟩
theorem dX7_runs_7 : zD cX7_runs 7 (.iload_n 2) 1 8 := ⟨by decide +kernel, rfl⟩
theorem dX7_runs_8 : zD cX7_runs 8 (.i2l) 1 9 := ⟨by decide +kernel, rfl⟩
theorem dX7_runs_9 : zD cX7_runs 9 (.lconst 0) 1 10 := ⟨by decide +kernel, rfl⟩
theorem dX7_runs_10 : zD cX7_runs 10 (.ldc2_w 216) 3 13 := ⟨by decide +kernel, rfl⟩
theorem dX7_runs_13 : zD cX7_runs 13 (.invokestatic 63) 3 16 := ⟨by decide +kernel, rfl⟩
theorem dX7_runs_16 : zJ cX7_runs 16 (fun o => .ifCond .ne o) 21 19 := ⟨5, by decide +kernel, by decide, rfl⟩
theorem dX7_runs_19 : zD cX7_runs 19 (.iconst (-1)) 1 20 := ⟨by decide +kernel, rfl⟩
theorem dX7_runs_20 : zD cX7_runs 20 (.ireturn) 1 21 := ⟨by decide +kernel, rfl⟩
theorem dX7_runs_21 : zD cX7_runs 21 (.aload_n 0) 1 22 := ⟨by decide +kernel, rfl⟩
theorem dX7_runs_22 : zD cX7_runs 22 (.invokevirtual 180) 3 25 := ⟨by decide +kernel, rfl⟩
theorem dX7_runs_25 : zD cX7_runs 25 (.aload_n 0) 1 26 := ⟨by decide +kernel, rfl⟩
theorem dX7_runs_26 : zD cX7_runs 26 (.iload_n 1) 1 27 := ⟨by decide +kernel, rfl⟩
theorem dX7_runs_27 : zD cX7_runs 27 (.invokevirtual 170) 3 30 := ⟨by decide +kernel, rfl⟩
theorem dX7_runs_30 : zD cX7_runs 30 (.iload_n 2) 1 31 := ⟨by decide +kernel, rfl⟩
theorem dX7_runs_31 : zD cX7_runs 31 (.tableswitch 54 0 3 #[29, 35, 43, 49]) 29 60 := ⟨by decide +kernel, rfl⟩
theorem dX7_runs_60 : zD cX7_runs 60 (.aload_n 0) 1 61 := ⟨by decide +kernel, rfl⟩
theorem dX7_runs_61 : zD cX7_runs 61 (.iconst 1) 1 62 := ⟨by decide +kernel, rfl⟩
theorem dX7_runs_62 : zD cX7_runs 62 (.invokevirtual 173) 3 65 := ⟨by decide +kernel, rfl⟩
theorem dX7_runs_65 : zD cX7_runs 65 (.ireturn) 1 66 := ⟨by decide +kernel, rfl⟩
theorem dX7_runs_66 : zD cX7_runs 66 (.aload_n 0) 1 67 := ⟨by decide +kernel, rfl⟩
theorem dX7_runs_67 : zD cX7_runs 67 (.getfield 13) 3 70 := ⟨by decide +kernel, rfl⟩
theorem dX7_runs_70 : zD cX7_runs 70 (.bipush 29) 2 72 := ⟨by decide +kernel, rfl⟩
theorem dX7_runs_72 : zD cX7_runs 72 (.iaload) 1 73 := ⟨by decide +kernel, rfl⟩
theorem dX7_runs_73 : zD cX7_runs 73 (.ireturn) 1 74 := ⟨by decide +kernel, rfl⟩
theorem dX7_runs_74 : zD cX7_runs 74 (.aload_n 0) 1 75 := ⟨by decide +kernel, rfl⟩
theorem dX7_runs_75 : zD cX7_runs 75 (.iconst 2) 1 76 := ⟨by decide +kernel, rfl⟩
theorem dX7_runs_76 : zD cX7_runs 76 (.invokevirtual 173) 3 79 := ⟨by decide +kernel, rfl⟩
theorem dX7_runs_79 : zD cX7_runs 79 (.ireturn) 1 80 := ⟨by decide +kernel, rfl⟩
theorem dX7_runs_80 : zD cX7_runs 80 (.aload_n 0) 1 81 := ⟨by decide +kernel, rfl⟩
theorem dX7_runs_81 : zD cX7_runs 81 (.getfield 138) 3 84 := ⟨by decide +kernel, rfl⟩
theorem dX7_runs_84 : zD cX7_runs 84 (.ireturn) 1 85 := ⟨by decide +kernel, rfl⟩
theorem dX7_runs_85 : zD cX7_runs 85 (.aload_n 0) 1 86 := ⟨by decide +kernel, rfl⟩
theorem dX7_runs_86 : zD cX7_runs 86 (.invokevirtual 218) 3 89 := ⟨by decide +kernel, rfl⟩
theorem dX7_runs_89 : zD cX7_runs 89 (.ireturn) 1 90 := ⟨by decide +kernel, rfl⟩
theorem dX7_ahead_0 : zD cX7_ahead 0 (.aload_n 0) 1 1 := ⟨by decide +kernel, rfl⟩
theorem dX7_ahead_1 : zD cX7_ahead 1 (.iload_n 1) 1 2 := ⟨by decide +kernel, rfl⟩
theorem dX7_ahead_2 : zD cX7_ahead 2 (.invokevirtual 183) 3 5 := ⟨by decide +kernel, rfl⟩
theorem dX7_ahead_5 : zJ cX7_ahead 5 (fun o => .ifCond .eq o) 22 8 := ⟨17, by decide +kernel, by decide, rfl⟩
theorem dX7_ahead_8 : zD cX7_ahead 8 (.iload_n 2) 1 9 := ⟨by decide +kernel, rfl⟩
theorem dX7_ahead_9 : zD cX7_ahead 9 (.invokestatic 213) 3 12 := ⟨by decide +kernel, rfl⟩
theorem dX7_ahead_12 : zJ cX7_ahead 12 (fun o => .ifCond .eq o) 22 15 := ⟨10, by decide +kernel, by decide, rfl⟩
theorem dX7_ahead_15 : zD cX7_ahead 15 (.iload_n 3) 1 16 := ⟨by decide +kernel, rfl⟩
theorem dX7_ahead_16 : zD cX7_ahead 16 (.invokestatic 190) 3 19 := ⟨by decide +kernel, rfl⟩
theorem dX7_ahead_19 : zJ cX7_ahead 19 (fun o => .ifCond .ne o) 24 22 := ⟨5, by decide +kernel, by decide, rfl⟩
theorem dX7_ahead_22 : zD cX7_ahead 22 (.iconst (-1)) 1 23 := ⟨by decide +kernel, rfl⟩
theorem dX7_ahead_23 : zD cX7_ahead 23 (.ireturn) 1 24 := ⟨by decide +kernel, rfl⟩
theorem dX7_ahead_24 : zD cX7_ahead 24 (.aload_n 0) 1 25 := ⟨by decide +kernel, rfl⟩
theorem dX7_ahead_25 : zD cX7_ahead 25 (.invokevirtual 180) 3 28 := ⟨by decide +kernel, rfl⟩
theorem dX7_ahead_28 : zD cX7_ahead 28 (.aload_n 0) 1 29 := ⟨by decide +kernel, rfl⟩
theorem dX7_ahead_29 : zD cX7_ahead 29 (.iload_n 2) 1 30 := ⟨by decide +kernel, rfl⟩
theorem dX7_ahead_30 : zD cX7_ahead 30 (.invokevirtual 170) 3 33 := ⟨by decide +kernel, rfl⟩
theorem dX7_ahead_33 : zD cX7_ahead 33 (.aload_n 0) 1 34 := ⟨by decide +kernel, rfl⟩
theorem dX7_ahead_34 : zD cX7_ahead 34 (.iload_n 1) 1 35 := ⟨by decide +kernel, rfl⟩
theorem dX7_ahead_35 : zD cX7_ahead 35 (.iconst 1) 1 36 := ⟨by decide +kernel, rfl⟩
theorem dX7_ahead_36 : zD cX7_ahead 36 (.iload_n 3) 1 37 := ⟨by decide +kernel, rfl⟩
theorem dX7_ahead_37 : zD cX7_ahead 37 (.iadd) 1 38 := ⟨by decide +kernel, rfl⟩
theorem dX7_ahead_38 : zD cX7_ahead 38 (.invokevirtual 147) 3 41 := ⟨by decide +kernel, rfl⟩
theorem dX7_ahead_41 : zD cX7_ahead 41 (.ireturn) 1 42 := ⟨by decide +kernel, rfl⟩
theorem dX7_late_0 : zD cX7_late 0 (.aload_n 0) 1 1 := ⟨by decide +kernel, rfl⟩
theorem dX7_late_1 : zD cX7_late 1 (.iload_n 1) 1 2 := ⟨by decide +kernel, rfl⟩
theorem dX7_late_2 : zD cX7_late 2 (.invokevirtual 183) 3 5 := ⟨by decide +kernel, rfl⟩
theorem dX7_late_5 : zJ cX7_late 5 (fun o => .ifCond .eq o) 15 8 := ⟨10, by decide +kernel, by decide, rfl⟩
theorem dX7_late_8 : zD cX7_late 8 (.iload_n 2) 1 9 := ⟨by decide +kernel, rfl⟩
theorem dX7_late_9 : zD cX7_late 9 (.invokestatic 195) 3 12 := ⟨by decide +kernel, rfl⟩
theorem dX7_late_12 : zJ cX7_late 12 (fun o => .ifCond .ne o) 17 15 := ⟨5, by decide +kernel, by decide, rfl⟩
theorem dX7_late_15 : zD cX7_late 15 (.iconst (-1)) 1 16 := ⟨by decide +kernel, rfl⟩
theorem dX7_late_16 : zD cX7_late 16 (.ireturn) 1 17 := ⟨by decide +kernel, rfl⟩
theorem dX7_late_17 : zD cX7_late 17 (.aload_n 0) 1 18 := ⟨by decide +kernel, rfl⟩
theorem dX7_late_18 : zD cX7_late 18 (.invokevirtual 180) 3 21 := ⟨by decide +kernel, rfl⟩
theorem dX7_late_21 : zD cX7_late 21 (.iconst 0) 1 22 := ⟨by decide +kernel, rfl⟩
theorem dX7_late_22 : zD cX7_late 22 (.istore_n 3) 1 23 := ⟨by decide +kernel, rfl⟩
theorem dX7_late_23 : zD cX7_late 23 (.iload_n 3) 1 24 := ⟨by decide +kernel, rfl⟩
theorem dX7_late_24 : zD cX7_late 24 (.bipush 60) 2 26 := ⟨by decide +kernel, rfl⟩
theorem dX7_late_26 : zJ cX7_late 26 (fun o => .if_icmp .gt o) 52 29 := ⟨26, by decide +kernel, by decide, rfl⟩
theorem dX7_late_29 : zD cX7_late 29 (.aload_n 0) 1 30 := ⟨by decide +kernel, rfl⟩
theorem dX7_late_30 : zD cX7_late 30 (.iload_n 1) 1 31 := ⟨by decide +kernel, rfl⟩
theorem dX7_late_31 : zD cX7_late 31 (.iconst 1) 1 32 := ⟨by decide +kernel, rfl⟩
theorem dX7_late_32 : zD cX7_late 32 (.invokevirtual 147) 3 35 := ⟨by decide +kernel, rfl⟩
theorem dX7_late_35 : zD cX7_late 35 (.iload_n 2) 1 36 := ⟨by decide +kernel, rfl⟩
theorem dX7_late_36 : zJ cX7_late 36 (fun o => .if_icmp .lt o) 41 39 := ⟨5, by decide +kernel, by decide, rfl⟩
theorem dX7_late_39 : zD cX7_late 39 (.iload_n 3) 1 40 := ⟨by decide +kernel, rfl⟩
theorem dX7_late_40 : zD cX7_late 40 (.ireturn) 1 41 := ⟨by decide +kernel, rfl⟩
theorem dX7_late_41 : zD cX7_late 41 (.aload_n 0) 1 42 := ⟨by decide +kernel, rfl⟩
theorem dX7_late_42 : zD cX7_late 42 (.iconst 0) 1 43 := ⟨by decide +kernel, rfl⟩
theorem dX7_late_43 : zD cX7_late 43 (.invokevirtual 166) 3 46 := ⟨by decide +kernel, rfl⟩
theorem dX7_late_46 : zD cX7_late 46 (.iinc 3 1) 3 49 := ⟨by decide +kernel, rfl⟩
theorem dX7_late_49 : zG cX7_late 49 23 := ⟨(-26), by decide +kernel, by decide⟩
theorem dX7_late_52 : zD cX7_late 52 (.bipush (-4)) 2 54 := ⟨by decide +kernel, rfl⟩
theorem dX7_late_54 : zD cX7_late 54 (.ireturn) 1 55 := ⟨by decide +kernel, rfl⟩
theorem dX7_startsJudging_0 : zD cX7_startsJudging 0 (.aload_n 0) 1 1 := ⟨by decide +kernel, rfl⟩
theorem dX7_startsJudging_1 : zD cX7_startsJudging 1 (.bipush (-4)) 2 3 := ⟨by decide +kernel, rfl⟩
theorem dX7_startsJudging_3 : zD cX7_startsJudging 3 (.putfield 221) 3 6 := ⟨by decide +kernel, rfl⟩
theorem dX7_startsJudging_6 : zD cX7_startsJudging 6 (.aload_n 0) 1 7 := ⟨by decide +kernel, rfl⟩
theorem dX7_startsJudging_7 : zD cX7_startsJudging 7 (.iload_n 1) 1 8 := ⟨by decide +kernel, rfl⟩
theorem dX7_startsJudging_8 : zD cX7_startsJudging 8 (.putfield 224) 3 11 := ⟨by decide +kernel, rfl⟩
theorem dX7_startsJudging_11 : zD cX7_startsJudging 11 (.return_) 1 12 := ⟨by decide +kernel, rfl⟩
theorem dX7_judges_0 : zD cX7_judges 0 (.iload_n 2) 1 1 := ⟨by decide +kernel, rfl⟩
theorem dX7_judges_1 : zD cX7_judges 1 (.aload_n 0) 1 2 := ⟨by decide +kernel, rfl⟩
theorem dX7_judges_2 : zD cX7_judges 2 (.getfield 224) 3 5 := ⟨by decide +kernel, rfl⟩
theorem dX7_judges_5 : zJ cX7_judges 5 (fun o => .if_icmp .le o) 18 8 := ⟨13, by decide +kernel, by decide, rfl⟩
theorem dX7_judges_8 : zD cX7_judges 8 (.aload_n 0) 1 9 := ⟨by decide +kernel, rfl⟩
theorem dX7_judges_9 : zD cX7_judges 9 (.iload_n 1) 1 10 := ⟨by decide +kernel, rfl⟩
theorem dX7_judges_10 : zD cX7_judges 10 (.putfield 221) 3 13 := ⟨by decide +kernel, rfl⟩
theorem dX7_judges_13 : zD cX7_judges 13 (.aload_n 0) 1 14 := ⟨by decide +kernel, rfl⟩
theorem dX7_judges_14 : zD cX7_judges 14 (.iload_n 2) 1 15 := ⟨by decide +kernel, rfl⟩
theorem dX7_judges_15 : zD cX7_judges 15 (.putfield 224) 3 18 := ⟨by decide +kernel, rfl⟩
theorem dX7_judges_18 : zD cX7_judges 18 (.return_) 1 19 := ⟨by decide +kernel, rfl⟩
theorem dX7_judged_0 : zD cX7_judged 0 (.aload_n 0) 1 1 := ⟨by decide +kernel, rfl⟩
theorem dX7_judged_1 : zD cX7_judged 1 (.getfield 221) 3 4 := ⟨by decide +kernel, rfl⟩
theorem dX7_judged_4 : zD cX7_judged 4 (.bipush (-4)) 2 6 := ⟨by decide +kernel, rfl⟩
theorem dX7_judged_6 : zJ cX7_judged 6 (fun o => .if_icmp .ne o) 14 9 := ⟨8, by decide +kernel, by decide, rfl⟩
theorem dX7_judged_9 : zD cX7_judged 9 (.bipush (-4)) 2 11 := ⟨by decide +kernel, rfl⟩
theorem dX7_judged_11 : zG cX7_judged 11 29 := ⟨18, by decide +kernel, by decide⟩
theorem dX7_judged_14 : zD cX7_judged 14 (.iload_n 1) 1 15 := ⟨by decide +kernel, rfl⟩
theorem dX7_judged_15 : zJ cX7_judged 15 (fun o => .ifCond .ne o) 25 18 := ⟨10, by decide +kernel, by decide, rfl⟩
theorem dX7_judged_18 : zD cX7_judged 18 (.aload_n 0) 1 19 := ⟨by decide +kernel, rfl⟩
theorem dX7_judged_19 : zD cX7_judged 19 (.getfield 221) 3 22 := ⟨by decide +kernel, rfl⟩
theorem dX7_judged_22 : zG cX7_judged 22 29 := ⟨7, by decide +kernel, by decide⟩
theorem dX7_judged_25 : zD cX7_judged 25 (.aload_n 0) 1 26 := ⟨by decide +kernel, rfl⟩
theorem dX7_judged_26 : zD cX7_judged 26 (.getfield 224) 3 29 := ⟨by decide +kernel, rfl⟩
theorem dX7_judged_29 : zD cX7_judged 29 (.ireturn) 1 30 := ⟨by decide +kernel, rfl⟩
theorem dX7_findOrder_0 : zD cX7_findOrder 0 (.iconst 1) 1 1 := ⟨by decide +kernel, rfl⟩
theorem dX7_findOrder_1 : zD cX7_findOrder 1 (.istore_n 1) 1 2 := ⟨by decide +kernel, rfl⟩
theorem dX7_findOrder_2 : zD cX7_findOrder 2 (.iconst 0) 1 3 := ⟨by decide +kernel, rfl⟩
theorem dX7_findOrder_3 : zD cX7_findOrder 3 (.istore_n 2) 1 4 := ⟨by decide +kernel, rfl⟩
theorem dX7_findOrder_4 : zD cX7_findOrder 4 (.iload_n 2) 1 5 := ⟨by decide +kernel, rfl⟩
theorem dX7_findOrder_5 : zD cX7_findOrder 5 (.aload_n 0) 1 6 := ⟨by decide +kernel, rfl⟩
theorem dX7_findOrder_6 : zD cX7_findOrder 6 (.getfield 7) 3 9 := ⟨by decide +kernel, rfl⟩
theorem dX7_findOrder_9 : zD cX7_findOrder 9 (.bipush 27) 2 11 := ⟨by decide +kernel, rfl⟩
theorem dX7_findOrder_11 : zD cX7_findOrder 11 (.iaload) 1 12 := ⟨by decide +kernel, rfl⟩
theorem dX7_findOrder_12 : zJ cX7_findOrder 12 (fun o => .if_icmp .ge o) 31 15 := ⟨19, by decide +kernel, by decide, rfl⟩
theorem dX7_findOrder_15 : zD cX7_findOrder 15 (.iload_n 1) 1 16 := ⟨by decide +kernel, rfl⟩
theorem dX7_findOrder_16 : zD cX7_findOrder 16 (.aload_n 0) 1 17 := ⟨by decide +kernel, rfl⟩
theorem dX7_findOrder_17 : zD cX7_findOrder 17 (.getfield 7) 3 20 := ⟨by decide +kernel, rfl⟩
theorem dX7_findOrder_20 : zD cX7_findOrder 20 (.bipush 18) 2 22 := ⟨by decide +kernel, rfl⟩
theorem dX7_findOrder_22 : zD cX7_findOrder 22 (.iaload) 1 23 := ⟨by decide +kernel, rfl⟩
theorem dX7_findOrder_23 : zD cX7_findOrder 23 (.imul) 1 24 := ⟨by decide +kernel, rfl⟩
theorem dX7_findOrder_24 : zD cX7_findOrder 24 (.istore_n 1) 1 25 := ⟨by decide +kernel, rfl⟩
theorem dX7_findOrder_25 : zD cX7_findOrder 25 (.iinc 2 1) 3 28 := ⟨by decide +kernel, rfl⟩
theorem dX7_findOrder_28 : zG cX7_findOrder 28 4 := ⟨(-24), by decide +kernel, by decide⟩
theorem dX7_findOrder_31 : zD cX7_findOrder 31 (.aload_n 0) 1 32 := ⟨by decide +kernel, rfl⟩
theorem dX7_findOrder_32 : zD cX7_findOrder 32 (.iconst (-1)) 1 33 := ⟨by decide +kernel, rfl⟩
theorem dX7_findOrder_33 : zD cX7_findOrder 33 (.invokevirtual 227) 3 36 := ⟨by decide +kernel, rfl⟩
theorem dX7_findOrder_36 : zD cX7_findOrder 36 (.iconst 0) 1 37 := ⟨by decide +kernel, rfl⟩
theorem dX7_findOrder_37 : zD cX7_findOrder 37 (.istore_n 2) 1 38 := ⟨by decide +kernel, rfl⟩
theorem dX7_findOrder_38 : zD cX7_findOrder 38 (.iload_n 2) 1 39 := ⟨by decide +kernel, rfl⟩
theorem dX7_findOrder_39 : zD cX7_findOrder 39 (.iload_n 1) 1 40 := ⟨by decide +kernel, rfl⟩
theorem dX7_findOrder_40 : zJ cX7_findOrder 40 (fun o => .if_icmp .ge o) 162 43 := ⟨122, by decide +kernel, by decide, rfl⟩
theorem dX7_findOrder_43 : zD cX7_findOrder 43 (.iload_n 2) 1 44 := ⟨by decide +kernel, rfl⟩
theorem dX7_findOrder_44 : zD cX7_findOrder 44 (.istore_n 3) 1 45 := ⟨by decide +kernel, rfl⟩
theorem dX7_findOrder_45 : zD cX7_findOrder 45 (.aload_n 0) 1 46 := ⟨by decide +kernel, rfl⟩
theorem dX7_findOrder_46 : zD cX7_findOrder 46 (.invokevirtual 180) 3 49 := ⟨by decide +kernel, rfl⟩
theorem dX7_findOrder_49 : zD cX7_findOrder 49 (.aload_n 0) 1 50 := ⟨by decide +kernel, rfl⟩
theorem dX7_findOrder_50 : zD cX7_findOrder 50 (.getfield 7) 3 53 := ⟨by decide +kernel, rfl⟩
theorem dX7_findOrder_53 : zD cX7_findOrder 53 (.bipush 27) 2 55 := ⟨by decide +kernel, rfl⟩
theorem dX7_findOrder_55 : zD cX7_findOrder 55 (.iaload) 1 56 := ⟨by decide +kernel, rfl⟩
theorem dX7_findOrder_56 : zD cX7_findOrder 56 (.iconst 1) 1 57 := ⟨by decide +kernel, rfl⟩
theorem dX7_findOrder_57 : zD cX7_findOrder 57 (.isub) 1 58 := ⟨by decide +kernel, rfl⟩
theorem dX7_findOrder_58 : zD cX7_findOrder 58 (.istore 4) 2 60 := ⟨by decide +kernel, rfl⟩
theorem dX7_findOrder_60 : zD cX7_findOrder 60 (.iload 4) 2 62 := ⟨by decide +kernel, rfl⟩
theorem dX7_findOrder_62 : zJ cX7_findOrder 62 (fun o => .ifCond .lt o) 97 65 := ⟨35, by decide +kernel, by decide, rfl⟩
theorem dX7_findOrder_65 : zD cX7_findOrder 65 (.aload_n 0) 1 66 := ⟨by decide +kernel, rfl⟩
theorem dX7_findOrder_66 : zD cX7_findOrder 66 (.iload 4) 2 68 := ⟨by decide +kernel, rfl⟩
theorem dX7_findOrder_68 : zD cX7_findOrder 68 (.iconst 0) 1 69 := ⟨by decide +kernel, rfl⟩
theorem dX7_findOrder_69 : zD cX7_findOrder 69 (.iload_n 3) 1 70 := ⟨by decide +kernel, rfl⟩
theorem dX7_findOrder_70 : zD cX7_findOrder 70 (.aload_n 0) 1 71 := ⟨by decide +kernel, rfl⟩
theorem dX7_findOrder_71 : zD cX7_findOrder 71 (.getfield 7) 3 74 := ⟨by decide +kernel, rfl⟩
theorem dX7_findOrder_74 : zD cX7_findOrder 74 (.bipush 18) 2 76 := ⟨by decide +kernel, rfl⟩
theorem dX7_findOrder_76 : zD cX7_findOrder 76 (.iaload) 1 77 := ⟨by decide +kernel, rfl⟩
theorem dX7_findOrder_77 : zD cX7_findOrder 77 (.irem) 1 78 := ⟨by decide +kernel, rfl⟩
theorem dX7_findOrder_78 : zD cX7_findOrder 78 (.invokevirtual 230) 3 81 := ⟨by decide +kernel, rfl⟩
theorem dX7_findOrder_81 : zD cX7_findOrder 81 (.iload_n 3) 1 82 := ⟨by decide +kernel, rfl⟩
theorem dX7_findOrder_82 : zD cX7_findOrder 82 (.aload_n 0) 1 83 := ⟨by decide +kernel, rfl⟩
theorem dX7_findOrder_83 : zD cX7_findOrder 83 (.getfield 7) 3 86 := ⟨by decide +kernel, rfl⟩
theorem dX7_findOrder_86 : zD cX7_findOrder 86 (.bipush 18) 2 88 := ⟨by decide +kernel, rfl⟩
theorem dX7_findOrder_88 : zD cX7_findOrder 88 (.iaload) 1 89 := ⟨by decide +kernel, rfl⟩
theorem dX7_findOrder_89 : zD cX7_findOrder 89 (.idiv) 1 90 := ⟨by decide +kernel, rfl⟩
theorem dX7_findOrder_90 : zD cX7_findOrder 90 (.istore_n 3) 1 91 := ⟨by decide +kernel, rfl⟩
theorem dX7_findOrder_91 : zD cX7_findOrder 91 (.iinc 4 (-1)) 3 94 := ⟨by decide +kernel, rfl⟩
theorem dX7_findOrder_94 : zG cX7_findOrder 94 60 := ⟨(-34), by decide +kernel, by decide⟩
theorem dX7_findOrder_97 : zD cX7_findOrder 97 (.aload_n 0) 1 98 := ⟨by decide +kernel, rfl⟩
theorem dX7_findOrder_98 : zD cX7_findOrder 98 (.bipush 6) 2 100 := ⟨by decide +kernel, rfl⟩
theorem dX7_findOrder_100 : zD cX7_findOrder 100 (.invokevirtual 205) 3 103 := ⟨by decide +kernel, rfl⟩
theorem dX7_findOrder_103 : zD cX7_findOrder 103 (.istore 4) 2 105 := ⟨by decide +kernel, rfl⟩
theorem dX7_findOrder_105 : zD cX7_findOrder 105 (.iconst 0) 1 106 := ⟨by decide +kernel, rfl⟩
theorem dX7_findOrder_106 : zD cX7_findOrder 106 (.istore 5) 2 108 := ⟨by decide +kernel, rfl⟩
theorem dX7_findOrder_108 : zD cX7_findOrder 108 (.iload 5) 2 110 := ⟨by decide +kernel, rfl⟩
theorem dX7_findOrder_110 : zD cX7_findOrder 110 (.aload_n 0) 1 111 := ⟨by decide +kernel, rfl⟩
theorem dX7_findOrder_111 : zD cX7_findOrder 111 (.getfield 7) 3 114 := ⟨by decide +kernel, rfl⟩
theorem dX7_findOrder_114 : zD cX7_findOrder 114 (.bipush 27) 2 116 := ⟨by decide +kernel, rfl⟩
theorem dX7_findOrder_116 : zD cX7_findOrder 116 (.iaload) 1 117 := ⟨by decide +kernel, rfl⟩
theorem dX7_findOrder_117 : zJ cX7_findOrder 117 (fun o => .if_icmp .ge o) 149 120 := ⟨32, by decide +kernel, by decide, rfl⟩
theorem dX7_findOrder_120 : zD cX7_findOrder 120 (.iload 4) 2 122 := ⟨by decide +kernel, rfl⟩
theorem dX7_findOrder_122 : zD cX7_findOrder 122 (.aload_n 0) 1 123 := ⟨by decide +kernel, rfl⟩
theorem dX7_findOrder_123 : zD cX7_findOrder 123 (.getfield 224) 3 126 := ⟨by decide +kernel, rfl⟩
theorem dX7_findOrder_126 : zJ cX7_findOrder 126 (fun o => .if_icmp .le o) 149 129 := ⟨23, by decide +kernel, by decide, rfl⟩
theorem dX7_findOrder_129 : zD cX7_findOrder 129 (.aload_n 0) 1 130 := ⟨by decide +kernel, rfl⟩
theorem dX7_findOrder_130 : zD cX7_findOrder 130 (.getfield 26) 3 133 := ⟨by decide +kernel, rfl⟩
theorem dX7_findOrder_133 : zD cX7_findOrder 133 (.iload 5) 2 135 := ⟨by decide +kernel, rfl⟩
theorem dX7_findOrder_135 : zD cX7_findOrder 135 (.aload_n 0) 1 136 := ⟨by decide +kernel, rfl⟩
theorem dX7_findOrder_136 : zD cX7_findOrder 136 (.iload 5) 2 138 := ⟨by decide +kernel, rfl⟩
theorem dX7_findOrder_138 : zD cX7_findOrder 138 (.iconst 0) 1 139 := ⟨by decide +kernel, rfl⟩
theorem dX7_findOrder_139 : zD cX7_findOrder 139 (.invokevirtual 141) 3 142 := ⟨by decide +kernel, rfl⟩
theorem dX7_findOrder_142 : zD cX7_findOrder 142 (.iastore) 1 143 := ⟨by decide +kernel, rfl⟩
theorem dX7_findOrder_143 : zD cX7_findOrder 143 (.iinc 5 1) 3 146 := ⟨by decide +kernel, rfl⟩
theorem dX7_findOrder_146 : zG cX7_findOrder 146 108 := ⟨(-38), by decide +kernel, by decide⟩
theorem dX7_findOrder_149 : zD cX7_findOrder 149 (.aload_n 0) 1 150 := ⟨by decide +kernel, rfl⟩
theorem dX7_findOrder_150 : zD cX7_findOrder 150 (.iload_n 2) 1 151 := ⟨by decide +kernel, rfl⟩
theorem dX7_findOrder_151 : zD cX7_findOrder 151 (.iload 4) 2 153 := ⟨by decide +kernel, rfl⟩
theorem dX7_findOrder_153 : zD cX7_findOrder 153 (.invokevirtual 233) 3 156 := ⟨by decide +kernel, rfl⟩
theorem dX7_findOrder_156 : zD cX7_findOrder 156 (.iinc 2 1) 3 159 := ⟨by decide +kernel, rfl⟩
theorem dX7_findOrder_159 : zG cX7_findOrder 159 38 := ⟨(-121), by decide +kernel, by decide⟩
theorem dX7_findOrder_162 : zD cX7_findOrder 162 (.return_) 1 163 := ⟨by decide +kernel, rfl⟩
theorem dX7_order_0 : zD cX7_order 0 (.iload_n 1) 1 1 := ⟨by decide +kernel, rfl⟩
theorem dX7_order_1 : zJ cX7_order 1 (fun o => .ifCond .eq o) 20 4 := ⟨19, by decide +kernel, by decide, rfl⟩
theorem dX7_order_4 : zD cX7_order 4 (.iload_n 1) 1 5 := ⟨by decide +kernel, rfl⟩
theorem dX7_order_5 : zD cX7_order 5 (.i2l) 1 6 := ⟨by decide +kernel, rfl⟩
theorem dX7_order_6 : zD cX7_order 6 (.ldc2_w 237) 3 9 := ⟨by decide +kernel, rfl⟩
theorem dX7_order_9 : zD cX7_order 9 (.ldc2_w 239) 3 12 := ⟨by decide +kernel, rfl⟩
theorem dX7_order_12 : zD cX7_order 12 (.invokestatic 63) 3 15 := ⟨by decide +kernel, rfl⟩
theorem dX7_order_15 : zJ cX7_order 15 (fun o => .ifCond .ne o) 20 18 := ⟨5, by decide +kernel, by decide, rfl⟩
theorem dX7_order_18 : zD cX7_order 18 (.iconst (-1)) 1 19 := ⟨by decide +kernel, rfl⟩
theorem dX7_order_19 : zD cX7_order 19 (.ireturn) 1 20 := ⟨by decide +kernel, rfl⟩
theorem dX7_order_20 : zD cX7_order 20 (.aload_n 0) 1 21 := ⟨by decide +kernel, rfl⟩
theorem dX7_order_21 : zD cX7_order 21 (.getfield 7) 3 24 := ⟨by decide +kernel, rfl⟩
theorem dX7_order_24 : zD cX7_order 24 (.bipush 18) 2 26 := ⟨by decide +kernel, rfl⟩
theorem dX7_order_26 : zD cX7_order 26 (.iaload) 1 27 := ⟨by decide +kernel, rfl⟩
theorem dX7_order_27 : zJ cX7_order 27 (fun o => .ifCond .ne o) 33 30 := ⟨6, by decide +kernel, by decide, rfl⟩
theorem dX7_order_30 : zD cX7_order 30 (.bipush (-2)) 2 32 := ⟨by decide +kernel, rfl⟩
theorem dX7_order_32 : zD cX7_order 32 (.ireturn) 1 33 := ⟨by decide +kernel, rfl⟩
theorem dX7_order_33 : zD cX7_order 33 (.aload_n 0) 1 34 := ⟨by decide +kernel, rfl⟩
theorem dX7_order_34 : zD cX7_order 34 (.invokevirtual 241) 3 37 := ⟨by decide +kernel, rfl⟩
theorem dX7_order_37 : zD cX7_order 37 (.iload_n 1) 1 38 := ⟨by decide +kernel, rfl⟩
theorem dX7_order_38 : zJ cX7_order 38 (fun o => .ifCond .ne o) 48 41 := ⟨10, by decide +kernel, by decide, rfl⟩
theorem dX7_order_41 : zD cX7_order 41 (.aload_n 0) 1 42 := ⟨by decide +kernel, rfl⟩
theorem dX7_order_42 : zD cX7_order 42 (.getfield 224) 3 45 := ⟨by decide +kernel, rfl⟩
theorem dX7_order_45 : zG cX7_order 45 73 := ⟨28, by decide +kernel, by decide⟩
theorem dX7_order_48 : zD cX7_order 48 (.aload_n 0) 1 49 := ⟨by decide +kernel, rfl⟩
theorem dX7_order_49 : zD cX7_order 49 (.iload_n 1) 1 50 := ⟨by decide +kernel, rfl⟩
theorem dX7_order_50 : zD cX7_order 50 (.bipush 10) 2 52 := ⟨by decide +kernel, rfl⟩
theorem dX7_order_52 : zD cX7_order 52 (.isub) 1 53 := ⟨by decide +kernel, rfl⟩
theorem dX7_order_53 : zD cX7_order 53 (.invokevirtual 187) 3 56 := ⟨by decide +kernel, rfl⟩
theorem dX7_order_56 : zJ cX7_order 56 (fun o => .ifCond .eq o) 71 59 := ⟨15, by decide +kernel, by decide, rfl⟩
theorem dX7_order_59 : zD cX7_order 59 (.aload_n 0) 1 60 := ⟨by decide +kernel, rfl⟩
theorem dX7_order_60 : zD cX7_order 60 (.getfield 26) 3 63 := ⟨by decide +kernel, rfl⟩
theorem dX7_order_63 : zD cX7_order 63 (.iload_n 1) 1 64 := ⟨by decide +kernel, rfl⟩
theorem dX7_order_64 : zD cX7_order 64 (.bipush 10) 2 66 := ⟨by decide +kernel, rfl⟩
theorem dX7_order_66 : zD cX7_order 66 (.isub) 1 67 := ⟨by decide +kernel, rfl⟩
theorem dX7_order_67 : zD cX7_order 67 (.iaload) 1 68 := ⟨by decide +kernel, rfl⟩
theorem dX7_order_68 : zG cX7_order 68 73 := ⟨5, by decide +kernel, by decide⟩
theorem dX7_order_71 : zD cX7_order 71 (.bipush (-4)) 2 73 := ⟨by decide +kernel, rfl⟩
theorem dX7_order_73 : zD cX7_order 73 (.ireturn) 1 74 := ⟨by decide +kernel, rfl⟩
theorem dX7_move_0 : zD cX7_move 0 (.iload_n 1) 1 1 := ⟨by decide +kernel, rfl⟩
theorem dX7_move_1 : zD cX7_move 1 (.invokestatic 213) 3 4 := ⟨by decide +kernel, rfl⟩
theorem dX7_move_4 : zJ cX7_move 4 (fun o => .ifCond .eq o) 14 7 := ⟨10, by decide +kernel, by decide, rfl⟩
theorem dX7_move_7 : zD cX7_move 7 (.iload_n 2) 1 8 := ⟨by decide +kernel, rfl⟩
theorem dX7_move_8 : zD cX7_move 8 (.invokestatic 190) 3 11 := ⟨by decide +kernel, rfl⟩
theorem dX7_move_11 : zJ cX7_move 11 (fun o => .ifCond .ne o) 16 14 := ⟨5, by decide +kernel, by decide, rfl⟩
theorem dX7_move_14 : zD cX7_move 14 (.iconst (-1)) 1 15 := ⟨by decide +kernel, rfl⟩
theorem dX7_move_15 : zD cX7_move 15 (.ireturn) 1 16 := ⟨by decide +kernel, rfl⟩
theorem dX7_move_16 : zD cX7_move 16 (.aload_n 0) 1 17 := ⟨by decide +kernel, rfl⟩
theorem dX7_move_17 : zD cX7_move 17 (.invokevirtual 180) 3 20 := ⟨by decide +kernel, rfl⟩
theorem dX7_move_20 : zD cX7_move 20 (.aload_n 0) 1 21 := ⟨by decide +kernel, rfl⟩
theorem dX7_move_21 : zD cX7_move 21 (.aload_n 0) 1 22 := ⟨by decide +kernel, rfl⟩
theorem dX7_move_22 : zD cX7_move 22 (.iload_n 1) 1 23 := ⟨by decide +kernel, rfl⟩
theorem dX7_move_23 : zD cX7_move 23 (.invokevirtual 205) 3 26 := ⟨by decide +kernel, rfl⟩
theorem dX7_move_26 : zD cX7_move 26 (.invokevirtual 227) 3 29 := ⟨by decide +kernel, rfl⟩
theorem dX7_move_29 : zD cX7_move 29 (.iconst 0) 1 30 := ⟨by decide +kernel, rfl⟩
theorem dX7_move_30 : zD cX7_move 30 (.istore_n 3) 1 31 := ⟨by decide +kernel, rfl⟩
theorem dX7_move_31 : zD cX7_move 31 (.iload_n 3) 1 32 := ⟨by decide +kernel, rfl⟩
theorem dX7_move_32 : zD cX7_move 32 (.aload_n 0) 1 33 := ⟨by decide +kernel, rfl⟩
theorem dX7_move_33 : zD cX7_move 33 (.getfield 7) 3 36 := ⟨by decide +kernel, rfl⟩
theorem dX7_move_36 : zD cX7_move 36 (.bipush 27) 2 38 := ⟨by decide +kernel, rfl⟩
theorem dX7_move_38 : zD cX7_move 38 (.iaload) 1 39 := ⟨by decide +kernel, rfl⟩
theorem dX7_move_39 : zJ cX7_move 39 (fun o => .if_icmp .ge o) 97 42 := ⟨58, by decide +kernel, by decide, rfl⟩
theorem dX7_move_42 : zD cX7_move 42 (.iconst 0) 1 43 := ⟨by decide +kernel, rfl⟩
theorem dX7_move_43 : zD cX7_move 43 (.istore 4) 2 45 := ⟨by decide +kernel, rfl⟩
theorem dX7_move_45 : zD cX7_move 45 (.iload 4) 2 47 := ⟨by decide +kernel, rfl⟩
theorem dX7_move_47 : zD cX7_move 47 (.aload_n 0) 1 48 := ⟨by decide +kernel, rfl⟩
theorem dX7_move_48 : zD cX7_move 48 (.getfield 7) 3 51 := ⟨by decide +kernel, rfl⟩
theorem dX7_move_51 : zD cX7_move 51 (.bipush 18) 2 53 := ⟨by decide +kernel, rfl⟩
theorem dX7_move_53 : zD cX7_move 53 (.iaload) 1 54 := ⟨by decide +kernel, rfl⟩
theorem dX7_move_54 : zJ cX7_move 54 (fun o => .if_icmp .ge o) 91 57 := ⟨37, by decide +kernel, by decide, rfl⟩
theorem dX7_move_57 : zD cX7_move 57 (.aload_n 0) 1 58 := ⟨by decide +kernel, rfl⟩
theorem dX7_move_58 : zD cX7_move 58 (.invokevirtual 180) 3 61 := ⟨by decide +kernel, rfl⟩
theorem dX7_move_61 : zD cX7_move 61 (.aload_n 0) 1 62 := ⟨by decide +kernel, rfl⟩
theorem dX7_move_62 : zD cX7_move 62 (.iload_n 3) 1 63 := ⟨by decide +kernel, rfl⟩
theorem dX7_move_63 : zD cX7_move 63 (.iconst 0) 1 64 := ⟨by decide +kernel, rfl⟩
theorem dX7_move_64 : zD cX7_move 64 (.iload 4) 2 66 := ⟨by decide +kernel, rfl⟩
theorem dX7_move_66 : zD cX7_move 66 (.invokevirtual 230) 3 69 := ⟨by decide +kernel, rfl⟩
theorem dX7_move_69 : zD cX7_move 69 (.aload_n 0) 1 70 := ⟨by decide +kernel, rfl⟩
theorem dX7_move_70 : zD cX7_move 70 (.bipush 10) 2 72 := ⟨by decide +kernel, rfl⟩
theorem dX7_move_72 : zD cX7_move 72 (.iload_n 3) 1 73 := ⟨by decide +kernel, rfl⟩
theorem dX7_move_73 : zD cX7_move 73 (.imul) 1 74 := ⟨by decide +kernel, rfl⟩
theorem dX7_move_74 : zD cX7_move 74 (.iload 4) 2 76 := ⟨by decide +kernel, rfl⟩
theorem dX7_move_76 : zD cX7_move 76 (.iadd) 1 77 := ⟨by decide +kernel, rfl⟩
theorem dX7_move_77 : zD cX7_move 77 (.aload_n 0) 1 78 := ⟨by decide +kernel, rfl⟩
theorem dX7_move_78 : zD cX7_move 78 (.iload_n 1) 1 79 := ⟨by decide +kernel, rfl⟩
theorem dX7_move_79 : zD cX7_move 79 (.invokevirtual 205) 3 82 := ⟨by decide +kernel, rfl⟩
theorem dX7_move_82 : zD cX7_move 82 (.invokevirtual 233) 3 85 := ⟨by decide +kernel, rfl⟩
theorem dX7_move_85 : zD cX7_move 85 (.iinc 4 1) 3 88 := ⟨by decide +kernel, rfl⟩
theorem dX7_move_88 : zG cX7_move 88 45 := ⟨(-43), by decide +kernel, by decide⟩
theorem dX7_move_91 : zD cX7_move 91 (.iinc 3 1) 3 94 := ⟨by decide +kernel, rfl⟩
theorem dX7_move_94 : zG cX7_move 94 31 := ⟨(-63), by decide +kernel, by decide⟩
theorem dX7_move_97 : zD cX7_move 97 (.aload_n 0) 1 98 := ⟨by decide +kernel, rfl⟩
theorem dX7_move_98 : zD cX7_move 98 (.iload_n 2) 1 99 := ⟨by decide +kernel, rfl⟩
theorem dX7_move_99 : zD cX7_move 99 (.invokevirtual 244) 3 102 := ⟨by decide +kernel, rfl⟩
theorem dX7_move_102 : zD cX7_move 102 (.ireturn) 1 103 := ⟨by decide +kernel, rfl⟩
theorem dX7_still_0 : zD cX7_still 0 (.iload_n 1) 1 1 := ⟨by decide +kernel, rfl⟩
theorem dX7_still_1 : zD cX7_still 1 (.invokestatic 213) 3 4 := ⟨by decide +kernel, rfl⟩
theorem dX7_still_4 : zJ cX7_still 4 (fun o => .ifCond .eq o) 14 7 := ⟨10, by decide +kernel, by decide, rfl⟩
theorem dX7_still_7 : zD cX7_still 7 (.iload_n 2) 1 8 := ⟨by decide +kernel, rfl⟩
theorem dX7_still_8 : zD cX7_still 8 (.invokestatic 190) 3 11 := ⟨by decide +kernel, rfl⟩
theorem dX7_still_11 : zJ cX7_still 11 (fun o => .ifCond .ne o) 16 14 := ⟨5, by decide +kernel, by decide, rfl⟩
theorem dX7_still_14 : zD cX7_still 14 (.iconst (-1)) 1 15 := ⟨by decide +kernel, rfl⟩
theorem dX7_still_15 : zD cX7_still 15 (.ireturn) 1 16 := ⟨by decide +kernel, rfl⟩
theorem dX7_still_16 : zD cX7_still 16 (.aload_n 0) 1 17 := ⟨by decide +kernel, rfl⟩
theorem dX7_still_17 : zD cX7_still 17 (.invokevirtual 180) 3 20 := ⟨by decide +kernel, rfl⟩
theorem dX7_still_20 : zD cX7_still 20 (.aload_n 0) 1 21 := ⟨by decide +kernel, rfl⟩
theorem dX7_still_21 : zD cX7_still 21 (.iload_n 1) 1 22 := ⟨by decide +kernel, rfl⟩
theorem dX7_still_22 : zD cX7_still 22 (.invokevirtual 170) 3 25 := ⟨by decide +kernel, rfl⟩
theorem dX7_still_25 : zD cX7_still 25 (.aload_n 0) 1 26 := ⟨by decide +kernel, rfl⟩
theorem dX7_still_26 : zD cX7_still 26 (.aload_n 0) 1 27 := ⟨by decide +kernel, rfl⟩
theorem dX7_still_27 : zD cX7_still 27 (.getfield 13) 3 30 := ⟨by decide +kernel, rfl⟩
theorem dX7_still_30 : zD cX7_still 30 (.bipush 29) 2 32 := ⟨by decide +kernel, rfl⟩
theorem dX7_still_32 : zD cX7_still 32 (.iaload) 1 33 := ⟨by decide +kernel, rfl⟩
theorem dX7_still_33 : zD cX7_still 33 (.invokevirtual 227) 3 36 := ⟨by decide +kernel, rfl⟩
theorem dX7_still_36 : zD cX7_still 36 (.iconst 0) 1 37 := ⟨by decide +kernel, rfl⟩
theorem dX7_still_37 : zD cX7_still 37 (.istore_n 3) 1 38 := ⟨by decide +kernel, rfl⟩
theorem dX7_still_38 : zD cX7_still 38 (.iload_n 3) 1 39 := ⟨by decide +kernel, rfl⟩
theorem dX7_still_39 : zD cX7_still 39 (.aload_n 0) 1 40 := ⟨by decide +kernel, rfl⟩
theorem dX7_still_40 : zD cX7_still 40 (.getfield 7) 3 43 := ⟨by decide +kernel, rfl⟩
theorem dX7_still_43 : zD cX7_still 43 (.bipush 27) 2 45 := ⟨by decide +kernel, rfl⟩
theorem dX7_still_45 : zD cX7_still 45 (.iaload) 1 46 := ⟨by decide +kernel, rfl⟩
theorem dX7_still_46 : zJ cX7_still 46 (fun o => .if_icmp .ge o) 81 49 := ⟨35, by decide +kernel, by decide, rfl⟩
theorem dX7_still_49 : zD cX7_still 49 (.aload_n 0) 1 50 := ⟨by decide +kernel, rfl⟩
theorem dX7_still_50 : zD cX7_still 50 (.invokevirtual 180) 3 53 := ⟨by decide +kernel, rfl⟩
theorem dX7_still_53 : zD cX7_still 53 (.aload_n 0) 1 54 := ⟨by decide +kernel, rfl⟩
theorem dX7_still_54 : zD cX7_still 54 (.iload_n 3) 1 55 := ⟨by decide +kernel, rfl⟩
theorem dX7_still_55 : zD cX7_still 55 (.putfield 135) 3 58 := ⟨by decide +kernel, rfl⟩
theorem dX7_still_58 : zD cX7_still 58 (.aload_n 0) 1 59 := ⟨by decide +kernel, rfl⟩
theorem dX7_still_59 : zD cX7_still 59 (.iload_n 1) 1 60 := ⟨by decide +kernel, rfl⟩
theorem dX7_still_60 : zD cX7_still 60 (.invokevirtual 170) 3 63 := ⟨by decide +kernel, rfl⟩
theorem dX7_still_63 : zD cX7_still 63 (.aload_n 0) 1 64 := ⟨by decide +kernel, rfl⟩
theorem dX7_still_64 : zD cX7_still 64 (.iload_n 3) 1 65 := ⟨by decide +kernel, rfl⟩
theorem dX7_still_65 : zD cX7_still 65 (.aload_n 0) 1 66 := ⟨by decide +kernel, rfl⟩
theorem dX7_still_66 : zD cX7_still 66 (.getfield 13) 3 69 := ⟨by decide +kernel, rfl⟩
theorem dX7_still_69 : zD cX7_still 69 (.bipush 29) 2 71 := ⟨by decide +kernel, rfl⟩
theorem dX7_still_71 : zD cX7_still 71 (.iaload) 1 72 := ⟨by decide +kernel, rfl⟩
theorem dX7_still_72 : zD cX7_still 72 (.invokevirtual 233) 3 75 := ⟨by decide +kernel, rfl⟩
theorem dX7_still_75 : zD cX7_still 75 (.iinc 3 1) 3 78 := ⟨by decide +kernel, rfl⟩
theorem dX7_still_78 : zG cX7_still 78 38 := ⟨(-40), by decide +kernel, by decide⟩
theorem dX7_still_81 : zD cX7_still 81 (.aload_n 0) 1 82 := ⟨by decide +kernel, rfl⟩
theorem dX7_still_82 : zD cX7_still 82 (.iload_n 2) 1 83 := ⟨by decide +kernel, rfl⟩
theorem dX7_still_83 : zD cX7_still 83 (.invokevirtual 244) 3 86 := ⟨by decide +kernel, rfl⟩
theorem dX7_still_86 : zD cX7_still 86 (.ireturn) 1 87 := ⟨by decide +kernel, rfl⟩
theorem dX7_need_0 : zD cX7_need 0 (.aload_n 0) 1 1 := ⟨by decide +kernel, rfl⟩
theorem dX7_need_1 : zD cX7_need 1 (.iload_n 1) 1 2 := ⟨by decide +kernel, rfl⟩
theorem dX7_need_2 : zD cX7_need 2 (.invokevirtual 187) 3 5 := ⟨by decide +kernel, rfl⟩
theorem dX7_need_5 : zJ cX7_need 5 (fun o => .ifCond .eq o) 22 8 := ⟨17, by decide +kernel, by decide, rfl⟩
theorem dX7_need_8 : zD cX7_need 8 (.iload_n 2) 1 9 := ⟨by decide +kernel, rfl⟩
theorem dX7_need_9 : zD cX7_need 9 (.invokestatic 213) 3 12 := ⟨by decide +kernel, rfl⟩
theorem dX7_need_12 : zJ cX7_need 12 (fun o => .ifCond .eq o) 22 15 := ⟨10, by decide +kernel, by decide, rfl⟩
theorem dX7_need_15 : zD cX7_need 15 (.iload_n 3) 1 16 := ⟨by decide +kernel, rfl⟩
theorem dX7_need_16 : zD cX7_need 16 (.invokestatic 195) 3 19 := ⟨by decide +kernel, rfl⟩
theorem dX7_need_19 : zJ cX7_need 19 (fun o => .ifCond .ne o) 24 22 := ⟨5, by decide +kernel, by decide, rfl⟩
theorem dX7_need_22 : zD cX7_need 22 (.iconst (-1)) 1 23 := ⟨by decide +kernel, rfl⟩
theorem dX7_need_23 : zD cX7_need 23 (.ireturn) 1 24 := ⟨by decide +kernel, rfl⟩
theorem dX7_need_24 : zD cX7_need 24 (.iconst 1) 1 25 := ⟨by decide +kernel, rfl⟩
theorem dX7_need_25 : zD cX7_need 25 (.istore 4) 2 27 := ⟨by decide +kernel, rfl⟩
theorem dX7_need_27 : zD cX7_need 27 (.iload 4) 2 29 := ⟨by decide +kernel, rfl⟩
theorem dX7_need_29 : zD cX7_need 29 (.bipush 9) 2 31 := ⟨by decide +kernel, rfl⟩
theorem dX7_need_31 : zJ cX7_need 31 (fun o => .if_icmp .gt o) 75 34 := ⟨44, by decide +kernel, by decide, rfl⟩
theorem dX7_need_34 : zD cX7_need 34 (.aload_n 0) 1 35 := ⟨by decide +kernel, rfl⟩
theorem dX7_need_35 : zD cX7_need 35 (.invokevirtual 180) 3 38 := ⟨by decide +kernel, rfl⟩
theorem dX7_need_38 : zD cX7_need 38 (.aload_n 0) 1 39 := ⟨by decide +kernel, rfl⟩
theorem dX7_need_39 : zD cX7_need 39 (.iload_n 1) 1 40 := ⟨by decide +kernel, rfl⟩
theorem dX7_need_40 : zD cX7_need 40 (.iconst 1) 1 41 := ⟨by decide +kernel, rfl⟩
theorem dX7_need_41 : zD cX7_need 41 (.iload 4) 2 43 := ⟨by decide +kernel, rfl⟩
theorem dX7_need_43 : zD cX7_need 43 (.invokevirtual 230) 3 46 := ⟨by decide +kernel, rfl⟩
theorem dX7_need_46 : zD cX7_need 46 (.aload_n 0) 1 47 := ⟨by decide +kernel, rfl⟩
theorem dX7_need_47 : zD cX7_need 47 (.iload_n 2) 1 48 := ⟨by decide +kernel, rfl⟩
theorem dX7_need_48 : zD cX7_need 48 (.invokevirtual 170) 3 51 := ⟨by decide +kernel, rfl⟩
theorem dX7_need_51 : zD cX7_need 51 (.aload_n 0) 1 52 := ⟨by decide +kernel, rfl⟩
theorem dX7_need_52 : zD cX7_need 52 (.aload_n 0) 1 53 := ⟨by decide +kernel, rfl⟩
theorem dX7_need_53 : zD cX7_need 53 (.iload_n 1) 1 54 := ⟨by decide +kernel, rfl⟩
theorem dX7_need_54 : zD cX7_need 54 (.iconst 0) 1 55 := ⟨by decide +kernel, rfl⟩
theorem dX7_need_55 : zD cX7_need 55 (.invokevirtual 141) 3 58 := ⟨by decide +kernel, rfl⟩
theorem dX7_need_58 : zD cX7_need 58 (.iconst 1) 1 59 := ⟨by decide +kernel, rfl⟩
theorem dX7_need_59 : zD cX7_need 59 (.invokevirtual 147) 3 62 := ⟨by decide +kernel, rfl⟩
theorem dX7_need_62 : zD cX7_need 62 (.iload_n 3) 1 63 := ⟨by decide +kernel, rfl⟩
theorem dX7_need_63 : zJ cX7_need 63 (fun o => .if_icmp .lt o) 69 66 := ⟨6, by decide +kernel, by decide, rfl⟩
theorem dX7_need_66 : zD cX7_need 66 (.iload 4) 2 68 := ⟨by decide +kernel, rfl⟩
theorem dX7_need_68 : zD cX7_need 68 (.ireturn) 1 69 := ⟨by decide +kernel, rfl⟩
theorem dX7_need_69 : zD cX7_need 69 (.iinc 4 1) 3 72 := ⟨by decide +kernel, rfl⟩
theorem dX7_need_72 : zG cX7_need 72 27 := ⟨(-45), by decide +kernel, by decide⟩
theorem dX7_need_75 : zD cX7_need 75 (.bipush (-4)) 2 77 := ⟨by decide +kernel, rfl⟩
theorem dX7_need_77 : zD cX7_need 77 (.ireturn) 1 78 := ⟨by decide +kernel, rfl⟩
theorem dX7_swap_0 : zD cX7_swap 0 (.iload_n 1) 1 1 := ⟨by decide +kernel, rfl⟩
theorem dX7_swap_1 : zD cX7_swap 1 (.invokestatic 213) 3 4 := ⟨by decide +kernel, rfl⟩
theorem dX7_swap_4 : zJ cX7_swap 4 (fun o => .ifCond .eq o) 14 7 := ⟨10, by decide +kernel, by decide, rfl⟩
theorem dX7_swap_7 : zD cX7_swap 7 (.iload_n 2) 1 8 := ⟨by decide +kernel, rfl⟩
theorem dX7_swap_8 : zD cX7_swap 8 (.invokestatic 190) 3 11 := ⟨by decide +kernel, rfl⟩
theorem dX7_swap_11 : zJ cX7_swap 11 (fun o => .ifCond .ne o) 16 14 := ⟨5, by decide +kernel, by decide, rfl⟩
theorem dX7_swap_14 : zD cX7_swap 14 (.iconst (-1)) 1 15 := ⟨by decide +kernel, rfl⟩
theorem dX7_swap_15 : zD cX7_swap 15 (.ireturn) 1 16 := ⟨by decide +kernel, rfl⟩
theorem dX7_swap_16 : zD cX7_swap 16 (.aload_n 0) 1 17 := ⟨by decide +kernel, rfl⟩
theorem dX7_swap_17 : zD cX7_swap 17 (.invokevirtual 180) 3 20 := ⟨by decide +kernel, rfl⟩
theorem dX7_swap_20 : zD cX7_swap 20 (.aload_n 0) 1 21 := ⟨by decide +kernel, rfl⟩
theorem dX7_swap_21 : zD cX7_swap 21 (.aload_n 0) 1 22 := ⟨by decide +kernel, rfl⟩
theorem dX7_swap_22 : zD cX7_swap 22 (.iload_n 1) 1 23 := ⟨by decide +kernel, rfl⟩
theorem dX7_swap_23 : zD cX7_swap 23 (.invokevirtual 205) 3 26 := ⟨by decide +kernel, rfl⟩
theorem dX7_swap_26 : zD cX7_swap 26 (.invokevirtual 227) 3 29 := ⟨by decide +kernel, rfl⟩
theorem dX7_swap_29 : zD cX7_swap 29 (.iconst 0) 1 30 := ⟨by decide +kernel, rfl⟩
theorem dX7_swap_30 : zD cX7_swap 30 (.istore_n 3) 1 31 := ⟨by decide +kernel, rfl⟩
theorem dX7_swap_31 : zD cX7_swap 31 (.iload_n 3) 1 32 := ⟨by decide +kernel, rfl⟩
theorem dX7_swap_32 : zD cX7_swap 32 (.aload_n 0) 1 33 := ⟨by decide +kernel, rfl⟩
theorem dX7_swap_33 : zD cX7_swap 33 (.getfield 7) 3 36 := ⟨by decide +kernel, rfl⟩
theorem dX7_swap_36 : zD cX7_swap 36 (.bipush 18) 2 38 := ⟨by decide +kernel, rfl⟩
theorem dX7_swap_38 : zD cX7_swap 38 (.iaload) 1 39 := ⟨by decide +kernel, rfl⟩
theorem dX7_swap_39 : zJ cX7_swap 39 (fun o => .if_icmp .ge o) 152 42 := ⟨113, by decide +kernel, by decide, rfl⟩
theorem dX7_swap_42 : zD cX7_swap 42 (.iload_n 3) 1 43 := ⟨by decide +kernel, rfl⟩
theorem dX7_swap_43 : zD cX7_swap 43 (.iconst 1) 1 44 := ⟨by decide +kernel, rfl⟩
theorem dX7_swap_44 : zD cX7_swap 44 (.iadd) 1 45 := ⟨by decide +kernel, rfl⟩
theorem dX7_swap_45 : zD cX7_swap 45 (.istore 4) 2 47 := ⟨by decide +kernel, rfl⟩
theorem dX7_swap_47 : zD cX7_swap 47 (.iload 4) 2 49 := ⟨by decide +kernel, rfl⟩
theorem dX7_swap_49 : zD cX7_swap 49 (.aload_n 0) 1 50 := ⟨by decide +kernel, rfl⟩
theorem dX7_swap_50 : zD cX7_swap 50 (.getfield 7) 3 53 := ⟨by decide +kernel, rfl⟩
theorem dX7_swap_53 : zD cX7_swap 53 (.bipush 18) 2 55 := ⟨by decide +kernel, rfl⟩
theorem dX7_swap_55 : zD cX7_swap 55 (.iaload) 1 56 := ⟨by decide +kernel, rfl⟩
theorem dX7_swap_56 : zJ cX7_swap 56 (fun o => .if_icmp .ge o) 146 59 := ⟨90, by decide +kernel, by decide, rfl⟩
theorem dX7_swap_59 : zD cX7_swap 59 (.aload_n 0) 1 60 := ⟨by decide +kernel, rfl⟩
theorem dX7_swap_60 : zD cX7_swap 60 (.invokevirtual 180) 3 63 := ⟨by decide +kernel, rfl⟩
theorem dX7_swap_63 : zD cX7_swap 63 (.iconst 0) 1 64 := ⟨by decide +kernel, rfl⟩
theorem dX7_swap_64 : zD cX7_swap 64 (.istore 5) 2 66 := ⟨by decide +kernel, rfl⟩
theorem dX7_swap_66 : zD cX7_swap 66 (.iload 5) 2 68 := ⟨by decide +kernel, rfl⟩
theorem dX7_swap_68 : zD cX7_swap 68 (.aload_n 0) 1 69 := ⟨by decide +kernel, rfl⟩
theorem dX7_swap_69 : zD cX7_swap 69 (.getfield 7) 3 72 := ⟨by decide +kernel, rfl⟩
theorem dX7_swap_72 : zD cX7_swap 72 (.bipush 27) 2 74 := ⟨by decide +kernel, rfl⟩
theorem dX7_swap_74 : zD cX7_swap 74 (.iaload) 1 75 := ⟨by decide +kernel, rfl⟩
theorem dX7_swap_75 : zJ cX7_swap 75 (fun o => .if_icmp .ge o) 124 78 := ⟨49, by decide +kernel, by decide, rfl⟩
theorem dX7_swap_78 : zD cX7_swap 78 (.aload_n 0) 1 79 := ⟨by decide +kernel, rfl⟩
theorem dX7_swap_79 : zD cX7_swap 79 (.iload 5) 2 81 := ⟨by decide +kernel, rfl⟩
theorem dX7_swap_81 : zD cX7_swap 81 (.iconst 0) 1 82 := ⟨by decide +kernel, rfl⟩
theorem dX7_swap_82 : zD cX7_swap 82 (.invokevirtual 141) 3 85 := ⟨by decide +kernel, rfl⟩
theorem dX7_swap_85 : zD cX7_swap 85 (.istore 6) 2 87 := ⟨by decide +kernel, rfl⟩
theorem dX7_swap_87 : zD cX7_swap 87 (.aload_n 0) 1 88 := ⟨by decide +kernel, rfl⟩
theorem dX7_swap_88 : zD cX7_swap 88 (.iload 5) 2 90 := ⟨by decide +kernel, rfl⟩
theorem dX7_swap_90 : zD cX7_swap 90 (.iconst 0) 1 91 := ⟨by decide +kernel, rfl⟩
theorem dX7_swap_91 : zD cX7_swap 91 (.iload 6) 2 93 := ⟨by decide +kernel, rfl⟩
theorem dX7_swap_93 : zD cX7_swap 93 (.iload_n 3) 1 94 := ⟨by decide +kernel, rfl⟩
theorem dX7_swap_94 : zJ cX7_swap 94 (fun o => .if_icmp .ne o) 102 97 := ⟨8, by decide +kernel, by decide, rfl⟩
theorem dX7_swap_97 : zD cX7_swap 97 (.iload 4) 2 99 := ⟨by decide +kernel, rfl⟩
theorem dX7_swap_99 : zG cX7_swap 99 115 := ⟨16, by decide +kernel, by decide⟩
theorem dX7_swap_102 : zD cX7_swap 102 (.iload 6) 2 104 := ⟨by decide +kernel, rfl⟩
theorem dX7_swap_104 : zD cX7_swap 104 (.iload 4) 2 106 := ⟨by decide +kernel, rfl⟩
theorem dX7_swap_106 : zJ cX7_swap 106 (fun o => .if_icmp .ne o) 113 109 := ⟨7, by decide +kernel, by decide, rfl⟩
theorem dX7_swap_109 : zD cX7_swap 109 (.iload_n 3) 1 110 := ⟨by decide +kernel, rfl⟩
theorem dX7_swap_110 : zG cX7_swap 110 115 := ⟨5, by decide +kernel, by decide⟩
theorem dX7_swap_113 : zD cX7_swap 113 (.iload 6) 2 115 := ⟨by decide +kernel, rfl⟩
theorem dX7_swap_115 : zD cX7_swap 115 (.invokevirtual 230) 3 118 := ⟨by decide +kernel, rfl⟩
theorem dX7_swap_118 : zD cX7_swap 118 (.iinc 5 1) 3 121 := ⟨by decide +kernel, rfl⟩
theorem dX7_swap_121 : zG cX7_swap 121 66 := ⟨(-55), by decide +kernel, by decide⟩
theorem dX7_swap_124 : zD cX7_swap 124 (.aload_n 0) 1 125 := ⟨by decide +kernel, rfl⟩
theorem dX7_swap_125 : zD cX7_swap 125 (.bipush 10) 2 127 := ⟨by decide +kernel, rfl⟩
theorem dX7_swap_127 : zD cX7_swap 127 (.iload_n 3) 1 128 := ⟨by decide +kernel, rfl⟩
theorem dX7_swap_128 : zD cX7_swap 128 (.imul) 1 129 := ⟨by decide +kernel, rfl⟩
theorem dX7_swap_129 : zD cX7_swap 129 (.iload 4) 2 131 := ⟨by decide +kernel, rfl⟩
theorem dX7_swap_131 : zD cX7_swap 131 (.iadd) 1 132 := ⟨by decide +kernel, rfl⟩
theorem dX7_swap_132 : zD cX7_swap 132 (.aload_n 0) 1 133 := ⟨by decide +kernel, rfl⟩
theorem dX7_swap_133 : zD cX7_swap 133 (.iload_n 1) 1 134 := ⟨by decide +kernel, rfl⟩
theorem dX7_swap_134 : zD cX7_swap 134 (.invokevirtual 205) 3 137 := ⟨by decide +kernel, rfl⟩
theorem dX7_swap_137 : zD cX7_swap 137 (.invokevirtual 233) 3 140 := ⟨by decide +kernel, rfl⟩
theorem dX7_swap_140 : zD cX7_swap 140 (.iinc 4 1) 3 143 := ⟨by decide +kernel, rfl⟩
theorem dX7_swap_143 : zG cX7_swap 143 47 := ⟨(-96), by decide +kernel, by decide⟩
theorem dX7_swap_146 : zD cX7_swap 146 (.iinc 3 1) 3 149 := ⟨by decide +kernel, rfl⟩
theorem dX7_swap_149 : zG cX7_swap 149 31 := ⟨(-118), by decide +kernel, by decide⟩
theorem dX7_swap_152 : zD cX7_swap 152 (.aload_n 0) 1 153 := ⟨by decide +kernel, rfl⟩
theorem dX7_swap_153 : zD cX7_swap 153 (.iload_n 2) 1 154 := ⟨by decide +kernel, rfl⟩
theorem dX7_swap_154 : zD cX7_swap 154 (.invokevirtual 244) 3 157 := ⟨by decide +kernel, rfl⟩
theorem dX7_swap_157 : zD cX7_swap 157 (.ireturn) 1 158 := ⟨by decide +kernel, rfl⟩
theorem dX7_bear_0 : zD cX7_bear 0 (.aload_n 0) 1 1 := ⟨by decide +kernel, rfl⟩
theorem dX7_bear_1 : zD cX7_bear 1 (.iload_n 1) 1 2 := ⟨by decide +kernel, rfl⟩
theorem dX7_bear_2 : zD cX7_bear 2 (.invokevirtual 183) 3 5 := ⟨by decide +kernel, rfl⟩
theorem dX7_bear_5 : zJ cX7_bear 5 (fun o => .ifCond .eq o) 22 8 := ⟨17, by decide +kernel, by decide, rfl⟩
theorem dX7_bear_8 : zD cX7_bear 8 (.iload_n 2) 1 9 := ⟨by decide +kernel, rfl⟩
theorem dX7_bear_9 : zD cX7_bear 9 (.invokestatic 213) 3 12 := ⟨by decide +kernel, rfl⟩
theorem dX7_bear_12 : zJ cX7_bear 12 (fun o => .ifCond .eq o) 22 15 := ⟨10, by decide +kernel, by decide, rfl⟩
theorem dX7_bear_15 : zD cX7_bear 15 (.iload_n 3) 1 16 := ⟨by decide +kernel, rfl⟩
theorem dX7_bear_16 : zD cX7_bear 16 (.invokestatic 195) 3 19 := ⟨by decide +kernel, rfl⟩
theorem dX7_bear_19 : zJ cX7_bear 19 (fun o => .ifCond .ne o) 24 22 := ⟨5, by decide +kernel, by decide, rfl⟩
theorem dX7_bear_22 : zD cX7_bear 22 (.iconst (-1)) 1 23 := ⟨by decide +kernel, rfl⟩
theorem dX7_bear_23 : zD cX7_bear 23 (.ireturn) 1 24 := ⟨by decide +kernel, rfl⟩
theorem dX7_bear_24 : zD cX7_bear 24 (.bipush 9) 2 26 := ⟨by decide +kernel, rfl⟩
theorem dX7_bear_26 : zD cX7_bear 26 (.istore 4) 2 28 := ⟨by decide +kernel, rfl⟩
theorem dX7_bear_28 : zD cX7_bear 28 (.iload 4) 2 30 := ⟨by decide +kernel, rfl⟩
theorem dX7_bear_30 : zJ cX7_bear 30 (fun o => .ifCond .lt o) 69 33 := ⟨39, by decide +kernel, by decide, rfl⟩
theorem dX7_bear_33 : zD cX7_bear 33 (.aload_n 0) 1 34 := ⟨by decide +kernel, rfl⟩
theorem dX7_bear_34 : zD cX7_bear 34 (.invokevirtual 180) 3 37 := ⟨by decide +kernel, rfl⟩
theorem dX7_bear_37 : zD cX7_bear 37 (.aload_n 0) 1 38 := ⟨by decide +kernel, rfl⟩
theorem dX7_bear_38 : zD cX7_bear 38 (.iload_n 1) 1 39 := ⟨by decide +kernel, rfl⟩
theorem dX7_bear_39 : zD cX7_bear 39 (.iconst 2) 1 40 := ⟨by decide +kernel, rfl⟩
theorem dX7_bear_40 : zD cX7_bear 40 (.iload 4) 2 42 := ⟨by decide +kernel, rfl⟩
theorem dX7_bear_42 : zD cX7_bear 42 (.invokevirtual 156) 3 45 := ⟨by decide +kernel, rfl⟩
theorem dX7_bear_45 : zD cX7_bear 45 (.aload_n 0) 1 46 := ⟨by decide +kernel, rfl⟩
theorem dX7_bear_46 : zD cX7_bear 46 (.iload_n 2) 1 47 := ⟨by decide +kernel, rfl⟩
theorem dX7_bear_47 : zD cX7_bear 47 (.invokevirtual 170) 3 50 := ⟨by decide +kernel, rfl⟩
theorem dX7_bear_50 : zD cX7_bear 50 (.aload_n 0) 1 51 := ⟨by decide +kernel, rfl⟩
theorem dX7_bear_51 : zD cX7_bear 51 (.iload_n 1) 1 52 := ⟨by decide +kernel, rfl⟩
theorem dX7_bear_52 : zD cX7_bear 52 (.iconst 1) 1 53 := ⟨by decide +kernel, rfl⟩
theorem dX7_bear_53 : zD cX7_bear 53 (.invokevirtual 147) 3 56 := ⟨by decide +kernel, rfl⟩
theorem dX7_bear_56 : zD cX7_bear 56 (.iload_n 3) 1 57 := ⟨by decide +kernel, rfl⟩
theorem dX7_bear_57 : zJ cX7_bear 57 (fun o => .if_icmp .lt o) 63 60 := ⟨6, by decide +kernel, by decide, rfl⟩
theorem dX7_bear_60 : zD cX7_bear 60 (.iload 4) 2 62 := ⟨by decide +kernel, rfl⟩
theorem dX7_bear_62 : zD cX7_bear 62 (.ireturn) 1 63 := ⟨by decide +kernel, rfl⟩
theorem dX7_bear_63 : zD cX7_bear 63 (.iinc 4 (-1)) 3 66 := ⟨by decide +kernel, rfl⟩
theorem dX7_bear_66 : zG cX7_bear 66 28 := ⟨(-38), by decide +kernel, by decide⟩
theorem dX7_bear_69 : zD cX7_bear 69 (.bipush (-4)) 2 71 := ⟨by decide +kernel, rfl⟩
theorem dX7_bear_71 : zD cX7_bear 71 (.ireturn) 1 72 := ⟨by decide +kernel, rfl⟩
theorem dX7_kind_0 : zD cX7_kind 0 (.aload_n 0) 1 1 := ⟨by decide +kernel, rfl⟩
theorem dX7_kind_1 : zD cX7_kind 1 (.iload_n 1) 1 2 := ⟨by decide +kernel, rfl⟩
theorem dX7_kind_2 : zD cX7_kind 2 (.invokevirtual 183) 3 5 := ⟨by decide +kernel, rfl⟩
theorem dX7_kind_5 : zJ cX7_kind 5 (fun o => .ifCond .eq o) 22 8 := ⟨17, by decide +kernel, by decide, rfl⟩
theorem dX7_kind_8 : zD cX7_kind 8 (.iload_n 2) 1 9 := ⟨by decide +kernel, rfl⟩
theorem dX7_kind_9 : zD cX7_kind 9 (.invokestatic 213) 3 12 := ⟨by decide +kernel, rfl⟩
theorem dX7_kind_12 : zJ cX7_kind 12 (fun o => .ifCond .eq o) 22 15 := ⟨10, by decide +kernel, by decide, rfl⟩
theorem dX7_kind_15 : zD cX7_kind 15 (.iload_n 3) 1 16 := ⟨by decide +kernel, rfl⟩
theorem dX7_kind_16 : zD cX7_kind 16 (.invokestatic 190) 3 19 := ⟨by decide +kernel, rfl⟩
theorem dX7_kind_19 : zJ cX7_kind 19 (fun o => .ifCond .ne o) 24 22 := ⟨5, by decide +kernel, by decide, rfl⟩
theorem dX7_kind_22 : zD cX7_kind 22 (.iconst (-1)) 1 23 := ⟨by decide +kernel, rfl⟩
theorem dX7_kind_23 : zD cX7_kind 23 (.ireturn) 1 24 := ⟨by decide +kernel, rfl⟩
theorem dX7_kind_24 : zD cX7_kind 24 (.aload_n 0) 1 25 := ⟨by decide +kernel, rfl⟩
theorem dX7_kind_25 : zD cX7_kind 25 (.iconst (-1)) 1 26 := ⟨by decide +kernel, rfl⟩
theorem dX7_kind_26 : zD cX7_kind 26 (.invokevirtual 227) 3 29 := ⟨by decide +kernel, rfl⟩
theorem dX7_kind_29 : zD cX7_kind 29 (.iconst 0) 1 30 := ⟨by decide +kernel, rfl⟩
theorem dX7_kind_30 : zD cX7_kind 30 (.istore 4) 2 32 := ⟨by decide +kernel, rfl⟩
theorem dX7_kind_32 : zD cX7_kind 32 (.iload 4) 2 34 := ⟨by decide +kernel, rfl⟩
theorem dX7_kind_34 : zD cX7_kind 34 (.iconst 4) 1 35 := ⟨by decide +kernel, rfl⟩
theorem dX7_kind_35 : zJ cX7_kind 35 (fun o => .if_icmp .ge o) 67 38 := ⟨32, by decide +kernel, by decide, rfl⟩
theorem dX7_kind_38 : zD cX7_kind 38 (.aload_n 0) 1 39 := ⟨by decide +kernel, rfl⟩
theorem dX7_kind_39 : zD cX7_kind 39 (.invokevirtual 180) 3 42 := ⟨by decide +kernel, rfl⟩
theorem dX7_kind_42 : zD cX7_kind 42 (.aload_n 0) 1 43 := ⟨by decide +kernel, rfl⟩
theorem dX7_kind_43 : zD cX7_kind 43 (.iload_n 1) 1 44 := ⟨by decide +kernel, rfl⟩
theorem dX7_kind_44 : zD cX7_kind 44 (.iconst 0) 1 45 := ⟨by decide +kernel, rfl⟩
theorem dX7_kind_45 : zD cX7_kind 45 (.iload 4) 2 47 := ⟨by decide +kernel, rfl⟩
theorem dX7_kind_47 : zD cX7_kind 47 (.invokevirtual 156) 3 50 := ⟨by decide +kernel, rfl⟩
theorem dX7_kind_50 : zD cX7_kind 50 (.aload_n 0) 1 51 := ⟨by decide +kernel, rfl⟩
theorem dX7_kind_51 : zD cX7_kind 51 (.iload 4) 2 53 := ⟨by decide +kernel, rfl⟩
theorem dX7_kind_53 : zD cX7_kind 53 (.aload_n 0) 1 54 := ⟨by decide +kernel, rfl⟩
theorem dX7_kind_54 : zD cX7_kind 54 (.iload_n 2) 1 55 := ⟨by decide +kernel, rfl⟩
theorem dX7_kind_55 : zD cX7_kind 55 (.invokevirtual 205) 3 58 := ⟨by decide +kernel, rfl⟩
theorem dX7_kind_58 : zD cX7_kind 58 (.invokevirtual 233) 3 61 := ⟨by decide +kernel, rfl⟩
theorem dX7_kind_61 : zD cX7_kind 61 (.iinc 4 1) 3 64 := ⟨by decide +kernel, rfl⟩
theorem dX7_kind_64 : zG cX7_kind 64 32 := ⟨(-32), by decide +kernel, by decide⟩
theorem dX7_kind_67 : zD cX7_kind 67 (.aload_n 0) 1 68 := ⟨by decide +kernel, rfl⟩
theorem dX7_kind_68 : zD cX7_kind 68 (.iload_n 3) 1 69 := ⟨by decide +kernel, rfl⟩
theorem dX7_kind_69 : zD cX7_kind 69 (.invokevirtual 244) 3 72 := ⟨by decide +kernel, rfl⟩
theorem dX7_kind_72 : zD cX7_kind 72 (.ireturn) 1 73 := ⟨by decide +kernel, rfl⟩
theorem dX7_common_0 : zD cX7_common 0 (.lload_n 0) 1 1 := ⟨by decide +kernel, rfl⟩
theorem dX7_common_1 : zD cX7_common 1 (.lstore 4) 2 3 := ⟨by decide +kernel, rfl⟩
theorem dX7_common_3 : zD cX7_common 3 (.lload_n 2) 1 4 := ⟨by decide +kernel, rfl⟩
theorem dX7_common_4 : zD cX7_common 4 (.lstore 6) 2 6 := ⟨by decide +kernel, rfl⟩
theorem dX7_common_6 : zD cX7_common 6 (.lload 6) 2 8 := ⟨by decide +kernel, rfl⟩
theorem dX7_common_8 : zD cX7_common 8 (.lconst 0) 1 9 := ⟨by decide +kernel, rfl⟩
theorem dX7_common_9 : zD cX7_common 9 (.lcmp) 1 10 := ⟨by decide +kernel, rfl⟩
theorem dX7_common_10 : zJ cX7_common 10 (fun o => .ifCond .eq o) 31 13 := ⟨21, by decide +kernel, by decide, rfl⟩
theorem dX7_common_13 : zD cX7_common 13 (.lload 4) 2 15 := ⟨by decide +kernel, rfl⟩
theorem dX7_common_15 : zD cX7_common 15 (.lload 6) 2 17 := ⟨by decide +kernel, rfl⟩
theorem dX7_common_17 : zD cX7_common 17 (.lrem) 1 18 := ⟨by decide +kernel, rfl⟩
theorem dX7_common_18 : zD cX7_common 18 (.lstore 8) 2 20 := ⟨by decide +kernel, rfl⟩
theorem dX7_common_20 : zD cX7_common 20 (.lload 6) 2 22 := ⟨by decide +kernel, rfl⟩
theorem dX7_common_22 : zD cX7_common 22 (.lstore 4) 2 24 := ⟨by decide +kernel, rfl⟩
theorem dX7_common_24 : zD cX7_common 24 (.lload 8) 2 26 := ⟨by decide +kernel, rfl⟩
theorem dX7_common_26 : zD cX7_common 26 (.lstore 6) 2 28 := ⟨by decide +kernel, rfl⟩
theorem dX7_common_28 : zG cX7_common 28 6 := ⟨(-22), by decide +kernel, by decide⟩
theorem dX7_common_31 : zD cX7_common 31 (.lload 4) 2 33 := ⟨by decide +kernel, rfl⟩
theorem dX7_common_33 : zD cX7_common 33 (.lreturn) 1 34 := ⟨by decide +kernel, rfl⟩
theorem dX7_lowest_0 : zD cX7_lowest 0 (.lload_n 2) 1 1 := ⟨by decide +kernel, rfl⟩
theorem dX7_lowest_1 : zD cX7_lowest 1 (.lload_n 0) 1 2 := ⟨by decide +kernel, rfl⟩
theorem dX7_lowest_2 : zD cX7_lowest 2 (.invokestatic 247) 3 5 := ⟨by decide +kernel, rfl⟩
theorem dX7_lowest_5 : zD cX7_lowest 5 (.lstore 5) 2 7 := ⟨by decide +kernel, rfl⟩
theorem dX7_lowest_7 : zD cX7_lowest 7 (.iload 4) 2 9 := ⟨by decide +kernel, rfl⟩
theorem dX7_lowest_9 : zJ cX7_lowest 9 (fun o => .ifCond .ne o) 19 12 := ⟨10, by decide +kernel, by decide, rfl⟩
theorem dX7_lowest_12 : zD cX7_lowest 12 (.lload_n 0) 1 13 := ⟨by decide +kernel, rfl⟩
theorem dX7_lowest_13 : zD cX7_lowest 13 (.lload 5) 2 15 := ⟨by decide +kernel, rfl⟩
theorem dX7_lowest_15 : zD cX7_lowest 15 (.ldiv) 1 16 := ⟨by decide +kernel, rfl⟩
theorem dX7_lowest_16 : zG cX7_lowest 16 23 := ⟨7, by decide +kernel, by decide⟩
theorem dX7_lowest_19 : zD cX7_lowest 19 (.lload_n 2) 1 20 := ⟨by decide +kernel, rfl⟩
theorem dX7_lowest_20 : zD cX7_lowest 20 (.lload 5) 2 22 := ⟨by decide +kernel, rfl⟩
theorem dX7_lowest_22 : zD cX7_lowest 22 (.ldiv) 1 23 := ⟨by decide +kernel, rfl⟩
theorem dX7_lowest_23 : zD cX7_lowest 23 (.lreturn) 1 24 := ⟨by decide +kernel, rfl⟩
theorem dX7_findOdds_0 : zD cX7_findOdds 0 (.aload_n 0) 1 1 := ⟨by decide +kernel, rfl⟩
theorem dX7_findOdds_1 : zD cX7_findOdds 1 (.lconst 0) 1 2 := ⟨by decide +kernel, rfl⟩
theorem dX7_findOdds_2 : zD cX7_findOdds 2 (.putfield 251) 3 5 := ⟨by decide +kernel, rfl⟩
theorem dX7_findOdds_5 : zD cX7_findOdds 5 (.aload_n 0) 1 6 := ⟨by decide +kernel, rfl⟩
theorem dX7_findOdds_6 : zD cX7_findOdds 6 (.lconst 0) 1 7 := ⟨by decide +kernel, rfl⟩
theorem dX7_findOdds_7 : zD cX7_findOdds 7 (.putfield 255) 3 10 := ⟨by decide +kernel, rfl⟩
theorem dX7_findOdds_10 : zD cX7_findOdds 10 (.aload_n 0) 1 11 := ⟨by decide +kernel, rfl⟩
theorem dX7_findOdds_11 : zD cX7_findOdds 11 (.lconst 1) 1 12 := ⟨by decide +kernel, rfl⟩
theorem dX7_findOdds_12 : zD cX7_findOdds 12 (.putfield 258) 3 15 := ⟨by decide +kernel, rfl⟩
theorem dX7_findOdds_15 : zD cX7_findOdds 15 (.iconst 0) 1 16 := ⟨by decide +kernel, rfl⟩
theorem dX7_findOdds_16 : zD cX7_findOdds 16 (.istore 5) 2 18 := ⟨by decide +kernel, rfl⟩
theorem dX7_findOdds_18 : zD cX7_findOdds 18 (.iload 5) 2 20 := ⟨by decide +kernel, rfl⟩
theorem dX7_findOdds_20 : zD cX7_findOdds 20 (.iload_n 3) 1 21 := ⟨by decide +kernel, rfl⟩
theorem dX7_findOdds_21 : zJ cX7_findOdds 21 (fun o => .if_icmp .ge o) 42 24 := ⟨21, by decide +kernel, by decide, rfl⟩
theorem dX7_findOdds_24 : zD cX7_findOdds 24 (.aload_n 0) 1 25 := ⟨by decide +kernel, rfl⟩
theorem dX7_findOdds_25 : zD cX7_findOdds 25 (.dup) 1 26 := ⟨by decide +kernel, rfl⟩
theorem dX7_findOdds_26 : zD cX7_findOdds 26 (.getfield 258) 3 29 := ⟨by decide +kernel, rfl⟩
theorem dX7_findOdds_29 : zD cX7_findOdds 29 (.ldc2_w 237) 3 32 := ⟨by decide +kernel, rfl⟩
theorem dX7_findOdds_32 : zD cX7_findOdds 32 (.lmul) 1 33 := ⟨by decide +kernel, rfl⟩
theorem dX7_findOdds_33 : zD cX7_findOdds 33 (.putfield 258) 3 36 := ⟨by decide +kernel, rfl⟩
theorem dX7_findOdds_36 : zD cX7_findOdds 36 (.iinc 5 1) 3 39 := ⟨by decide +kernel, rfl⟩
theorem dX7_findOdds_39 : zG cX7_findOdds 39 18 := ⟨(-21), by decide +kernel, by decide⟩
theorem dX7_findOdds_42 : zD cX7_findOdds 42 (.iconst 0) 1 43 := ⟨by decide +kernel, rfl⟩
theorem dX7_findOdds_43 : zD cX7_findOdds 43 (.istore 5) 2 45 := ⟨by decide +kernel, rfl⟩
theorem dX7_findOdds_45 : zD cX7_findOdds 45 (.iload 5) 2 47 := ⟨by decide +kernel, rfl⟩
theorem dX7_findOdds_47 : zD cX7_findOdds 47 (.iconst 1) 1 48 := ⟨by decide +kernel, rfl⟩
theorem dX7_findOdds_48 : zD cX7_findOdds 48 (.iload_n 3) 1 49 := ⟨by decide +kernel, rfl⟩
theorem dX7_findOdds_49 : zD cX7_findOdds 49 (.ishl) 1 50 := ⟨by decide +kernel, rfl⟩
theorem dX7_findOdds_50 : zJ cX7_findOdds 50 (fun o => .if_icmp .ge o) 175 53 := ⟨125, by decide +kernel, by decide, rfl⟩
theorem dX7_findOdds_53 : zD cX7_findOdds 53 (.lconst 1) 1 54 := ⟨by decide +kernel, rfl⟩
theorem dX7_findOdds_54 : zD cX7_findOdds 54 (.lstore 6) 2 56 := ⟨by decide +kernel, rfl⟩
theorem dX7_findOdds_56 : zD cX7_findOdds 56 (.aload_n 0) 1 57 := ⟨by decide +kernel, rfl⟩
theorem dX7_findOdds_57 : zD cX7_findOdds 57 (.invokevirtual 180) 3 60 := ⟨by decide +kernel, rfl⟩
theorem dX7_findOdds_60 : zD cX7_findOdds 60 (.iconst 0) 1 61 := ⟨by decide +kernel, rfl⟩
theorem dX7_findOdds_61 : zD cX7_findOdds 61 (.istore 8) 2 63 := ⟨by decide +kernel, rfl⟩
theorem dX7_findOdds_63 : zD cX7_findOdds 63 (.iload 8) 2 65 := ⟨by decide +kernel, rfl⟩
theorem dX7_findOdds_65 : zD cX7_findOdds 65 (.iload_n 3) 1 66 := ⟨by decide +kernel, rfl⟩
theorem dX7_findOdds_66 : zJ cX7_findOdds 66 (fun o => .if_icmp .ge o) 119 69 := ⟨53, by decide +kernel, by decide, rfl⟩
theorem dX7_findOdds_69 : zD cX7_findOdds 69 (.iload 5) 2 71 := ⟨by decide +kernel, rfl⟩
theorem dX7_findOdds_71 : zD cX7_findOdds 71 (.iload 8) 2 73 := ⟨by decide +kernel, rfl⟩
theorem dX7_findOdds_73 : zD cX7_findOdds 73 (.ishr) 1 74 := ⟨by decide +kernel, rfl⟩
theorem dX7_findOdds_74 : zD cX7_findOdds 74 (.iconst 1) 1 75 := ⟨by decide +kernel, rfl⟩
theorem dX7_findOdds_75 : zD cX7_findOdds 75 (.iand) 1 76 := ⟨by decide +kernel, rfl⟩
theorem dX7_findOdds_76 : zD cX7_findOdds 76 (.iconst 1) 1 77 := ⟨by decide +kernel, rfl⟩
theorem dX7_findOdds_77 : zJ cX7_findOdds 77 (fun o => .if_icmp .ne o) 84 80 := ⟨7, by decide +kernel, by decide, rfl⟩
theorem dX7_findOdds_80 : zD cX7_findOdds 80 (.iconst 1) 1 81 := ⟨by decide +kernel, rfl⟩
theorem dX7_findOdds_81 : zG cX7_findOdds 81 85 := ⟨4, by decide +kernel, by decide⟩
theorem dX7_findOdds_84 : zD cX7_findOdds 84 (.iconst 0) 1 85 := ⟨by decide +kernel, rfl⟩
theorem dX7_findOdds_85 : zD cX7_findOdds 85 (.istore 9) 2 87 := ⟨by decide +kernel, rfl⟩
theorem dX7_findOdds_87 : zD cX7_findOdds 87 (.lload 6) 2 89 := ⟨by decide +kernel, rfl⟩
theorem dX7_findOdds_89 : zD cX7_findOdds 89 (.iload 9) 2 91 := ⟨by decide +kernel, rfl⟩
theorem dX7_findOdds_91 : zJ cX7_findOdds 91 (fun o => .ifCond .eq o) 99 94 := ⟨8, by decide +kernel, by decide, rfl⟩
theorem dX7_findOdds_94 : zD cX7_findOdds 94 (.iload_n 1) 1 95 := ⟨by decide +kernel, rfl⟩
theorem dX7_findOdds_95 : zD cX7_findOdds 95 (.i2l) 1 96 := ⟨by decide +kernel, rfl⟩
theorem dX7_findOdds_96 : zG cX7_findOdds 96 104 := ⟨8, by decide +kernel, by decide⟩
theorem dX7_findOdds_99 : zD cX7_findOdds 99 (.bipush 10) 2 101 := ⟨by decide +kernel, rfl⟩
theorem dX7_findOdds_101 : zD cX7_findOdds 101 (.iload_n 1) 1 102 := ⟨by decide +kernel, rfl⟩
theorem dX7_findOdds_102 : zD cX7_findOdds 102 (.isub) 1 103 := ⟨by decide +kernel, rfl⟩
theorem dX7_findOdds_103 : zD cX7_findOdds 103 (.i2l) 1 104 := ⟨by decide +kernel, rfl⟩
theorem dX7_findOdds_104 : zD cX7_findOdds 104 (.lmul) 1 105 := ⟨by decide +kernel, rfl⟩
theorem dX7_findOdds_105 : zD cX7_findOdds 105 (.lstore 6) 2 107 := ⟨by decide +kernel, rfl⟩
theorem dX7_findOdds_107 : zD cX7_findOdds 107 (.aload_n 0) 1 108 := ⟨by decide +kernel, rfl⟩
theorem dX7_findOdds_108 : zD cX7_findOdds 108 (.iload 9) 2 110 := ⟨by decide +kernel, rfl⟩
theorem dX7_findOdds_110 : zD cX7_findOdds 110 (.invokevirtual 166) 3 113 := ⟨by decide +kernel, rfl⟩
theorem dX7_findOdds_113 : zD cX7_findOdds 113 (.iinc 8 1) 3 116 := ⟨by decide +kernel, rfl⟩
theorem dX7_findOdds_116 : zG cX7_findOdds 116 63 := ⟨(-53), by decide +kernel, by decide⟩
theorem dX7_findOdds_119 : zD cX7_findOdds 119 (.aload_n 0) 1 120 := ⟨by decide +kernel, rfl⟩
theorem dX7_findOdds_120 : zD cX7_findOdds 120 (.dup) 1 121 := ⟨by decide +kernel, rfl⟩
theorem dX7_findOdds_121 : zD cX7_findOdds 121 (.getfield 251) 3 124 := ⟨by decide +kernel, rfl⟩
theorem dX7_findOdds_124 : zD cX7_findOdds 124 (.iload_n 2) 1 125 := ⟨by decide +kernel, rfl⟩
theorem dX7_findOdds_125 : zD cX7_findOdds 125 (.bipush (-4)) 2 127 := ⟨by decide +kernel, rfl⟩
theorem dX7_findOdds_127 : zJ cX7_findOdds 127 (fun o => .if_icmp .eq o) 146 130 := ⟨19, by decide +kernel, by decide, rfl⟩
theorem dX7_findOdds_130 : zD cX7_findOdds 130 (.aload_n 0) 1 131 := ⟨by decide +kernel, rfl⟩
theorem dX7_findOdds_131 : zD cX7_findOdds 131 (.iload_n 2) 1 132 := ⟨by decide +kernel, rfl⟩
theorem dX7_findOdds_132 : zD cX7_findOdds 132 (.iconst 1) 1 133 := ⟨by decide +kernel, rfl⟩
theorem dX7_findOdds_133 : zD cX7_findOdds 133 (.invokevirtual 147) 3 136 := ⟨by decide +kernel, rfl⟩
theorem dX7_findOdds_136 : zD cX7_findOdds 136 (.iload 4) 2 138 := ⟨by decide +kernel, rfl⟩
theorem dX7_findOdds_138 : zJ cX7_findOdds 138 (fun o => .if_icmp .lt o) 146 141 := ⟨8, by decide +kernel, by decide, rfl⟩
theorem dX7_findOdds_141 : zD cX7_findOdds 141 (.lload 6) 2 143 := ⟨by decide +kernel, rfl⟩
theorem dX7_findOdds_143 : zG cX7_findOdds 143 147 := ⟨4, by decide +kernel, by decide⟩
theorem dX7_findOdds_146 : zD cX7_findOdds 146 (.lconst 0) 1 147 := ⟨by decide +kernel, rfl⟩
theorem dX7_findOdds_147 : zD cX7_findOdds 147 (.ladd) 1 148 := ⟨by decide +kernel, rfl⟩
theorem dX7_findOdds_148 : zD cX7_findOdds 148 (.putfield 251) 3 151 := ⟨by decide +kernel, rfl⟩
theorem dX7_findOdds_151 : zD cX7_findOdds 151 (.aload_n 0) 1 152 := ⟨by decide +kernel, rfl⟩
theorem dX7_findOdds_152 : zD cX7_findOdds 152 (.dup) 1 153 := ⟨by decide +kernel, rfl⟩
theorem dX7_findOdds_153 : zD cX7_findOdds 153 (.getfield 255) 3 156 := ⟨by decide +kernel, rfl⟩
theorem dX7_findOdds_156 : zD cX7_findOdds 156 (.lload 6) 2 158 := ⟨by decide +kernel, rfl⟩
theorem dX7_findOdds_158 : zD cX7_findOdds 158 (.aload_n 0) 1 159 := ⟨by decide +kernel, rfl⟩
theorem dX7_findOdds_159 : zD cX7_findOdds 159 (.iconst 1) 1 160 := ⟨by decide +kernel, rfl⟩
theorem dX7_findOdds_160 : zD cX7_findOdds 160 (.invokevirtual 173) 3 163 := ⟨by decide +kernel, rfl⟩
theorem dX7_findOdds_163 : zD cX7_findOdds 163 (.i2l) 1 164 := ⟨by decide +kernel, rfl⟩
theorem dX7_findOdds_164 : zD cX7_findOdds 164 (.lmul) 1 165 := ⟨by decide +kernel, rfl⟩
theorem dX7_findOdds_165 : zD cX7_findOdds 165 (.ladd) 1 166 := ⟨by decide +kernel, rfl⟩
theorem dX7_findOdds_166 : zD cX7_findOdds 166 (.putfield 255) 3 169 := ⟨by decide +kernel, rfl⟩
theorem dX7_findOdds_169 : zD cX7_findOdds 169 (.iinc 5 1) 3 172 := ⟨by decide +kernel, rfl⟩
theorem dX7_findOdds_172 : zG cX7_findOdds 172 45 := ⟨(-127), by decide +kernel, by decide⟩
theorem dX7_findOdds_175 : zD cX7_findOdds 175 (.return_) 1 176 := ⟨by decide +kernel, rfl⟩
theorem dX7_luck_0 : zD cX7_luck 0 (.iload_n 1) 1 1 := ⟨by decide +kernel, rfl⟩
theorem dX7_luck_1 : zD cX7_luck 1 (.i2l) 1 2 := ⟨by decide +kernel, rfl⟩
theorem dX7_luck_2 : zD cX7_luck 2 (.lconst 0) 1 3 := ⟨by decide +kernel, rfl⟩
theorem dX7_luck_3 : zD cX7_luck 3 (.ldc2_w 237) 3 6 := ⟨by decide +kernel, rfl⟩
theorem dX7_luck_6 : zD cX7_luck 6 (.invokestatic 63) 3 9 := ⟨by decide +kernel, rfl⟩
theorem dX7_luck_9 : zJ cX7_luck 9 (fun o => .ifCond .eq o) 48 12 := ⟨39, by decide +kernel, by decide, rfl⟩
theorem dX7_luck_12 : zD cX7_luck 12 (.aload_n 0) 1 13 := ⟨by decide +kernel, rfl⟩
theorem dX7_luck_13 : zD cX7_luck 13 (.iload_n 2) 1 14 := ⟨by decide +kernel, rfl⟩
theorem dX7_luck_14 : zD cX7_luck 14 (.invokevirtual 183) 3 17 := ⟨by decide +kernel, rfl⟩
theorem dX7_luck_17 : zJ cX7_luck 17 (fun o => .ifCond .eq o) 48 20 := ⟨31, by decide +kernel, by decide, rfl⟩
theorem dX7_luck_20 : zD cX7_luck 20 (.iload_n 3) 1 21 := ⟨by decide +kernel, rfl⟩
theorem dX7_luck_21 : zD cX7_luck 21 (.i2l) 1 22 := ⟨by decide +kernel, rfl⟩
theorem dX7_luck_22 : zD cX7_luck 22 (.lconst 0) 1 23 := ⟨by decide +kernel, rfl⟩
theorem dX7_luck_23 : zD cX7_luck 23 (.ldc2_w 261) 3 26 := ⟨by decide +kernel, rfl⟩
theorem dX7_luck_26 : zD cX7_luck 26 (.invokestatic 63) 3 29 := ⟨by decide +kernel, rfl⟩
theorem dX7_luck_29 : zJ cX7_luck 29 (fun o => .ifCond .eq o) 48 32 := ⟨19, by decide +kernel, by decide, rfl⟩
theorem dX7_luck_32 : zD cX7_luck 32 (.iload 4) 2 34 := ⟨by decide +kernel, rfl⟩
theorem dX7_luck_34 : zD cX7_luck 34 (.invokestatic 195) 3 37 := ⟨by decide +kernel, rfl⟩
theorem dX7_luck_37 : zJ cX7_luck 37 (fun o => .ifCond .eq o) 48 40 := ⟨11, by decide +kernel, by decide, rfl⟩
theorem dX7_luck_40 : zD cX7_luck 40 (.iload 5) 2 42 := ⟨by decide +kernel, rfl⟩
theorem dX7_luck_42 : zD cX7_luck 42 (.invokestatic 190) 3 45 := ⟨by decide +kernel, rfl⟩
theorem dX7_luck_45 : zJ cX7_luck 45 (fun o => .ifCond .ne o) 52 48 := ⟨7, by decide +kernel, by decide, rfl⟩
theorem dX7_luck_48 : zD cX7_luck 48 (.ldc2_w 263) 3 51 := ⟨by decide +kernel, rfl⟩
theorem dX7_luck_51 : zD cX7_luck 51 (.lreturn) 1 52 := ⟨by decide +kernel, rfl⟩
theorem dX7_luck_52 : zD cX7_luck 52 (.aload_n 0) 1 53 := ⟨by decide +kernel, rfl⟩
theorem dX7_luck_53 : zD cX7_luck 53 (.iload_n 1) 1 54 := ⟨by decide +kernel, rfl⟩
theorem dX7_luck_54 : zD cX7_luck 54 (.iload_n 2) 1 55 := ⟨by decide +kernel, rfl⟩
theorem dX7_luck_55 : zD cX7_luck 55 (.iload_n 3) 1 56 := ⟨by decide +kernel, rfl⟩
theorem dX7_luck_56 : zD cX7_luck 56 (.iload 4) 2 58 := ⟨by decide +kernel, rfl⟩
theorem dX7_luck_58 : zD cX7_luck 58 (.invokevirtual 265) 3 61 := ⟨by decide +kernel, rfl⟩
theorem dX7_luck_61 : zD cX7_luck 61 (.aload_n 0) 1 62 := ⟨by decide +kernel, rfl⟩
theorem dX7_luck_62 : zD cX7_luck 62 (.getfield 251) 3 65 := ⟨by decide +kernel, rfl⟩
theorem dX7_luck_65 : zD cX7_luck 65 (.aload_n 0) 1 66 := ⟨by decide +kernel, rfl⟩
theorem dX7_luck_66 : zD cX7_luck 66 (.getfield 258) 3 69 := ⟨by decide +kernel, rfl⟩
theorem dX7_luck_69 : zD cX7_luck 69 (.iload 5) 2 71 := ⟨by decide +kernel, rfl⟩
theorem dX7_luck_71 : zD cX7_luck 71 (.invokestatic 269) 3 74 := ⟨by decide +kernel, rfl⟩
theorem dX7_luck_74 : zD cX7_luck 74 (.lreturn) 1 75 := ⟨by decide +kernel, rfl⟩
theorem dX7_mean_0 : zD cX7_mean 0 (.iload_n 1) 1 1 := ⟨by decide +kernel, rfl⟩
theorem dX7_mean_1 : zD cX7_mean 1 (.i2l) 1 2 := ⟨by decide +kernel, rfl⟩
theorem dX7_mean_2 : zD cX7_mean 2 (.lconst 0) 1 3 := ⟨by decide +kernel, rfl⟩
theorem dX7_mean_3 : zD cX7_mean 3 (.ldc2_w 237) 3 6 := ⟨by decide +kernel, rfl⟩
theorem dX7_mean_6 : zD cX7_mean 6 (.invokestatic 63) 3 9 := ⟨by decide +kernel, rfl⟩
theorem dX7_mean_9 : zJ cX7_mean 9 (fun o => .ifCond .eq o) 31 12 := ⟨22, by decide +kernel, by decide, rfl⟩
theorem dX7_mean_12 : zD cX7_mean 12 (.iload_n 2) 1 13 := ⟨by decide +kernel, rfl⟩
theorem dX7_mean_13 : zD cX7_mean 13 (.i2l) 1 14 := ⟨by decide +kernel, rfl⟩
theorem dX7_mean_14 : zD cX7_mean 14 (.lconst 0) 1 15 := ⟨by decide +kernel, rfl⟩
theorem dX7_mean_15 : zD cX7_mean 15 (.ldc2_w 261) 3 18 := ⟨by decide +kernel, rfl⟩
theorem dX7_mean_18 : zD cX7_mean 18 (.invokestatic 63) 3 21 := ⟨by decide +kernel, rfl⟩
theorem dX7_mean_21 : zJ cX7_mean 21 (fun o => .ifCond .eq o) 31 24 := ⟨10, by decide +kernel, by decide, rfl⟩
theorem dX7_mean_24 : zD cX7_mean 24 (.iload_n 3) 1 25 := ⟨by decide +kernel, rfl⟩
theorem dX7_mean_25 : zD cX7_mean 25 (.invokestatic 190) 3 28 := ⟨by decide +kernel, rfl⟩
theorem dX7_mean_28 : zJ cX7_mean 28 (fun o => .ifCond .ne o) 35 31 := ⟨7, by decide +kernel, by decide, rfl⟩
theorem dX7_mean_31 : zD cX7_mean 31 (.ldc2_w 263) 3 34 := ⟨by decide +kernel, rfl⟩
theorem dX7_mean_34 : zD cX7_mean 34 (.lreturn) 1 35 := ⟨by decide +kernel, rfl⟩
theorem dX7_mean_35 : zD cX7_mean 35 (.aload_n 0) 1 36 := ⟨by decide +kernel, rfl⟩
theorem dX7_mean_36 : zD cX7_mean 36 (.iload_n 1) 1 37 := ⟨by decide +kernel, rfl⟩
theorem dX7_mean_37 : zD cX7_mean 37 (.bipush (-4)) 2 39 := ⟨by decide +kernel, rfl⟩
theorem dX7_mean_39 : zD cX7_mean 39 (.iload_n 2) 1 40 := ⟨by decide +kernel, rfl⟩
theorem dX7_mean_40 : zD cX7_mean 40 (.iconst 0) 1 41 := ⟨by decide +kernel, rfl⟩
theorem dX7_mean_41 : zD cX7_mean 41 (.invokevirtual 265) 3 44 := ⟨by decide +kernel, rfl⟩
theorem dX7_mean_44 : zD cX7_mean 44 (.aload_n 0) 1 45 := ⟨by decide +kernel, rfl⟩
theorem dX7_mean_45 : zD cX7_mean 45 (.getfield 255) 3 48 := ⟨by decide +kernel, rfl⟩
theorem dX7_mean_48 : zD cX7_mean 48 (.aload_n 0) 1 49 := ⟨by decide +kernel, rfl⟩
theorem dX7_mean_49 : zD cX7_mean 49 (.getfield 258) 3 52 := ⟨by decide +kernel, rfl⟩
theorem dX7_mean_52 : zD cX7_mean 52 (.iload_n 3) 1 53 := ⟨by decide +kernel, rfl⟩
theorem dX7_mean_53 : zD cX7_mean 53 (.invokestatic 269) 3 56 := ⟨by decide +kernel, rfl⟩
theorem dX7_mean_56 : zD cX7_mean 56 (.lreturn) 1 57 := ⟨by decide +kernel, rfl⟩
theorem dX7_see_0 : zD cX7_see 0 (.iload_n 1) 1 1 := ⟨by decide +kernel, rfl⟩
theorem dX7_see_1 : zD cX7_see 1 (.i2l) 1 2 := ⟨by decide +kernel, rfl⟩
theorem dX7_see_2 : zD cX7_see 2 (.lconst 0) 1 3 := ⟨by decide +kernel, rfl⟩
theorem dX7_see_3 : zD cX7_see 3 (.ldc2_w 273) 3 6 := ⟨by decide +kernel, rfl⟩
theorem dX7_see_6 : zD cX7_see 6 (.invokestatic 63) 3 9 := ⟨by decide +kernel, rfl⟩
theorem dX7_see_9 : zJ cX7_see 9 (fun o => .ifCond .eq o) 27 12 := ⟨18, by decide +kernel, by decide, rfl⟩
theorem dX7_see_12 : zD cX7_see 12 (.aload_n 0) 1 13 := ⟨by decide +kernel, rfl⟩
theorem dX7_see_13 : zD cX7_see 13 (.iload_n 2) 1 14 := ⟨by decide +kernel, rfl⟩
theorem dX7_see_14 : zD cX7_see 14 (.invokevirtual 183) 3 17 := ⟨by decide +kernel, rfl⟩
theorem dX7_see_17 : zJ cX7_see 17 (fun o => .ifCond .eq o) 27 20 := ⟨10, by decide +kernel, by decide, rfl⟩
theorem dX7_see_20 : zD cX7_see 20 (.iload_n 3) 1 21 := ⟨by decide +kernel, rfl⟩
theorem dX7_see_21 : zD cX7_see 21 (.invokestatic 195) 3 24 := ⟨by decide +kernel, rfl⟩
theorem dX7_see_24 : zJ cX7_see 24 (fun o => .ifCond .ne o) 29 27 := ⟨5, by decide +kernel, by decide, rfl⟩
theorem dX7_see_27 : zD cX7_see 27 (.iconst (-1)) 1 28 := ⟨by decide +kernel, rfl⟩
theorem dX7_see_28 : zD cX7_see 28 (.ireturn) 1 29 := ⟨by decide +kernel, rfl⟩
theorem dX7_see_29 : zD cX7_see 29 (.aload_n 0) 1 30 := ⟨by decide +kernel, rfl⟩
theorem dX7_see_30 : zD cX7_see 30 (.getfield 7) 3 33 := ⟨by decide +kernel, rfl⟩
theorem dX7_see_33 : zD cX7_see 33 (.bipush 31) 2 35 := ⟨by decide +kernel, rfl⟩
theorem dX7_see_35 : zD cX7_see 35 (.iaload) 1 36 := ⟨by decide +kernel, rfl⟩
theorem dX7_see_36 : zD cX7_see 36 (.bipush 6) 2 38 := ⟨by decide +kernel, rfl⟩
theorem dX7_see_38 : zJ cX7_see 38 (fun o => .if_icmp .ne o) 44 41 := ⟨6, by decide +kernel, by decide, rfl⟩
theorem dX7_see_41 : zD cX7_see 41 (.bipush (-3)) 2 43 := ⟨by decide +kernel, rfl⟩
theorem dX7_see_43 : zD cX7_see 43 (.ireturn) 1 44 := ⟨by decide +kernel, rfl⟩
theorem dX7_see_44 : zD cX7_see 44 (.bipush 32) 2 46 := ⟨by decide +kernel, rfl⟩
theorem dX7_see_46 : zD cX7_see 46 (.iconst 3) 1 47 := ⟨by decide +kernel, rfl⟩
theorem dX7_see_47 : zD cX7_see 47 (.aload_n 0) 1 48 := ⟨by decide +kernel, rfl⟩
theorem dX7_see_48 : zD cX7_see 48 (.getfield 7) 3 51 := ⟨by decide +kernel, rfl⟩
theorem dX7_see_51 : zD cX7_see 51 (.bipush 31) 2 53 := ⟨by decide +kernel, rfl⟩
theorem dX7_see_53 : zD cX7_see 53 (.iaload) 1 54 := ⟨by decide +kernel, rfl⟩
theorem dX7_see_54 : zD cX7_see 54 (.imul) 1 55 := ⟨by decide +kernel, rfl⟩
theorem dX7_see_55 : zD cX7_see 55 (.iadd) 1 56 := ⟨by decide +kernel, rfl⟩
theorem dX7_see_56 : zD cX7_see 56 (.istore 4) 2 58 := ⟨by decide +kernel, rfl⟩
theorem dX7_see_58 : zD cX7_see 58 (.aload_n 0) 1 59 := ⟨by decide +kernel, rfl⟩
theorem dX7_see_59 : zD cX7_see 59 (.getfield 7) 3 62 := ⟨by decide +kernel, rfl⟩
theorem dX7_see_62 : zD cX7_see 62 (.iload 4) 2 64 := ⟨by decide +kernel, rfl⟩
theorem dX7_see_64 : zD cX7_see 64 (.iload_n 1) 1 65 := ⟨by decide +kernel, rfl⟩
theorem dX7_see_65 : zD cX7_see 65 (.iastore) 1 66 := ⟨by decide +kernel, rfl⟩
theorem dX7_see_66 : zD cX7_see 66 (.aload_n 0) 1 67 := ⟨by decide +kernel, rfl⟩
theorem dX7_see_67 : zD cX7_see 67 (.getfield 7) 3 70 := ⟨by decide +kernel, rfl⟩
theorem dX7_see_70 : zD cX7_see 70 (.iload 4) 2 72 := ⟨by decide +kernel, rfl⟩
theorem dX7_see_72 : zD cX7_see 72 (.iconst 1) 1 73 := ⟨by decide +kernel, rfl⟩
theorem dX7_see_73 : zD cX7_see 73 (.iadd) 1 74 := ⟨by decide +kernel, rfl⟩
theorem dX7_see_74 : zD cX7_see 74 (.iload_n 2) 1 75 := ⟨by decide +kernel, rfl⟩
theorem dX7_see_75 : zD cX7_see 75 (.iastore) 1 76 := ⟨by decide +kernel, rfl⟩
theorem dX7_see_76 : zD cX7_see 76 (.aload_n 0) 1 77 := ⟨by decide +kernel, rfl⟩
theorem dX7_see_77 : zD cX7_see 77 (.getfield 7) 3 80 := ⟨by decide +kernel, rfl⟩
theorem dX7_see_80 : zD cX7_see 80 (.iload 4) 2 82 := ⟨by decide +kernel, rfl⟩
theorem dX7_see_82 : zD cX7_see 82 (.iconst 2) 1 83 := ⟨by decide +kernel, rfl⟩
theorem dX7_see_83 : zD cX7_see 83 (.iadd) 1 84 := ⟨by decide +kernel, rfl⟩
theorem dX7_see_84 : zD cX7_see 84 (.iload_n 3) 1 85 := ⟨by decide +kernel, rfl⟩
theorem dX7_see_85 : zD cX7_see 85 (.iastore) 1 86 := ⟨by decide +kernel, rfl⟩
theorem dX7_see_86 : zD cX7_see 86 (.aload_n 0) 1 87 := ⟨by decide +kernel, rfl⟩
theorem dX7_see_87 : zD cX7_see 87 (.getfield 7) 3 90 := ⟨by decide +kernel, rfl⟩
theorem dX7_see_90 : zD cX7_see 90 (.bipush 31) 2 92 := ⟨by decide +kernel, rfl⟩
theorem dX7_see_92 : zD cX7_see 92 (.dup2) 1 93 := ⟨by decide +kernel, rfl⟩
theorem dX7_see_93 : zD cX7_see 93 (.iaload) 1 94 := ⟨by decide +kernel, rfl⟩
theorem dX7_see_94 : zD cX7_see 94 (.iconst 1) 1 95 := ⟨by decide +kernel, rfl⟩
theorem dX7_see_95 : zD cX7_see 95 (.iadd) 1 96 := ⟨by decide +kernel, rfl⟩
theorem dX7_see_96 : zD cX7_see 96 (.iastore) 1 97 := ⟨by decide +kernel, rfl⟩
theorem dX7_see_97 : zD cX7_see 97 (.aload_n 0) 1 98 := ⟨by decide +kernel, rfl⟩
theorem dX7_see_98 : zD cX7_see 98 (.getfield 7) 3 101 := ⟨by decide +kernel, rfl⟩
theorem dX7_see_101 : zD cX7_see 101 (.bipush 31) 2 103 := ⟨by decide +kernel, rfl⟩
theorem dX7_see_103 : zD cX7_see 103 (.iaload) 1 104 := ⟨by decide +kernel, rfl⟩
theorem dX7_see_104 : zD cX7_see 104 (.ireturn) 1 105 := ⟨by decide +kernel, rfl⟩
theorem dX7_forget_0 : zD cX7_forget 0 (.iload_n 1) 1 1 := ⟨by decide +kernel, rfl⟩
theorem dX7_forget_1 : zD cX7_forget 1 (.i2l) 1 2 := ⟨by decide +kernel, rfl⟩
theorem dX7_forget_2 : zD cX7_forget 2 (.lconst 0) 1 3 := ⟨by decide +kernel, rfl⟩
theorem dX7_forget_3 : zD cX7_forget 3 (.aload_n 0) 1 4 := ⟨by decide +kernel, rfl⟩
theorem dX7_forget_4 : zD cX7_forget 4 (.getfield 7) 3 7 := ⟨by decide +kernel, rfl⟩
theorem dX7_forget_7 : zD cX7_forget 7 (.bipush 31) 2 9 := ⟨by decide +kernel, rfl⟩
theorem dX7_forget_9 : zD cX7_forget 9 (.iaload) 1 10 := ⟨by decide +kernel, rfl⟩
theorem dX7_forget_10 : zD cX7_forget 10 (.i2l) 1 11 := ⟨by decide +kernel, rfl⟩
theorem dX7_forget_11 : zD cX7_forget 11 (.invokestatic 63) 3 14 := ⟨by decide +kernel, rfl⟩
theorem dX7_forget_14 : zJ cX7_forget 14 (fun o => .ifCond .eq o) 27 17 := ⟨13, by decide +kernel, by decide, rfl⟩
theorem dX7_forget_17 : zD cX7_forget 17 (.aload_n 0) 1 18 := ⟨by decide +kernel, rfl⟩
theorem dX7_forget_18 : zD cX7_forget 18 (.bipush 31) 2 20 := ⟨by decide +kernel, rfl⟩
theorem dX7_forget_20 : zD cX7_forget 20 (.iload_n 1) 1 21 := ⟨by decide +kernel, rfl⟩
theorem dX7_forget_21 : zD cX7_forget 21 (.invokevirtual 200) 3 24 := ⟨by decide +kernel, rfl⟩
theorem dX7_forget_24 : zG cX7_forget 24 28 := ⟨4, by decide +kernel, by decide⟩
theorem dX7_forget_27 : zD cX7_forget 27 (.iconst (-1)) 1 28 := ⟨by decide +kernel, rfl⟩
theorem dX7_forget_28 : zD cX7_forget 28 (.ireturn) 1 29 := ⟨by decide +kernel, rfl⟩
theorem dX7_isSoWith_0 : zD cX7_isSoWith 0 (.aload_n 0) 1 1 := ⟨by decide +kernel, rfl⟩
theorem dX7_isSoWith_1 : zD cX7_isSoWith 1 (.invokevirtual 180) 3 4 := ⟨by decide +kernel, rfl⟩
theorem dX7_isSoWith_4 : zD cX7_isSoWith 4 (.aload_n 0) 1 5 := ⟨by decide +kernel, rfl⟩
theorem dX7_isSoWith_5 : zD cX7_isSoWith 5 (.getfield 13) 3 8 := ⟨by decide +kernel, rfl⟩
theorem dX7_isSoWith_8 : zD cX7_isSoWith 8 (.iload_n 1) 1 9 := ⟨by decide +kernel, rfl⟩
theorem dX7_isSoWith_9 : zD cX7_isSoWith 9 (.iload_n 2) 1 10 := ⟨by decide +kernel, rfl⟩
theorem dX7_isSoWith_10 : zD cX7_isSoWith 10 (.iastore) 1 11 := ⟨by decide +kernel, rfl⟩
theorem dX7_isSoWith_11 : zD cX7_isSoWith 11 (.iconst 0) 1 12 := ⟨by decide +kernel, rfl⟩
theorem dX7_isSoWith_12 : zD cX7_isSoWith 12 (.istore_n 3) 1 13 := ⟨by decide +kernel, rfl⟩
theorem dX7_isSoWith_13 : zD cX7_isSoWith 13 (.iload_n 3) 1 14 := ⟨by decide +kernel, rfl⟩
theorem dX7_isSoWith_14 : zD cX7_isSoWith 14 (.bipush 20) 2 16 := ⟨by decide +kernel, rfl⟩
theorem dX7_isSoWith_16 : zJ cX7_isSoWith 16 (fun o => .if_icmp .gt o) 70 19 := ⟨54, by decide +kernel, by decide, rfl⟩
theorem dX7_isSoWith_19 : zD cX7_isSoWith 19 (.iconst 0) 1 20 := ⟨by decide +kernel, rfl⟩
theorem dX7_isSoWith_20 : zD cX7_isSoWith 20 (.istore 4) 2 22 := ⟨by decide +kernel, rfl⟩
theorem dX7_isSoWith_22 : zD cX7_isSoWith 22 (.iload 4) 2 24 := ⟨by decide +kernel, rfl⟩
theorem dX7_isSoWith_24 : zD cX7_isSoWith 24 (.aload_n 0) 1 25 := ⟨by decide +kernel, rfl⟩
theorem dX7_isSoWith_25 : zD cX7_isSoWith 25 (.getfield 13) 3 28 := ⟨by decide +kernel, rfl⟩
theorem dX7_isSoWith_28 : zD cX7_isSoWith 28 (.bipush 18) 2 30 := ⟨by decide +kernel, rfl⟩
theorem dX7_isSoWith_30 : zD cX7_isSoWith 30 (.iaload) 1 31 := ⟨by decide +kernel, rfl⟩
theorem dX7_isSoWith_31 : zJ cX7_isSoWith 31 (fun o => .if_icmp .ge o) 59 34 := ⟨28, by decide +kernel, by decide, rfl⟩
theorem dX7_isSoWith_34 : zD cX7_isSoWith 34 (.aload_n 0) 1 35 := ⟨by decide +kernel, rfl⟩
theorem dX7_isSoWith_35 : zD cX7_isSoWith 35 (.getfield 29) 3 38 := ⟨by decide +kernel, rfl⟩
theorem dX7_isSoWith_38 : zD cX7_isSoWith 38 (.bipush 6) 2 40 := ⟨by decide +kernel, rfl⟩
theorem dX7_isSoWith_40 : zD cX7_isSoWith 40 (.iload_n 3) 1 41 := ⟨by decide +kernel, rfl⟩
theorem dX7_isSoWith_41 : zD cX7_isSoWith 41 (.imul) 1 42 := ⟨by decide +kernel, rfl⟩
theorem dX7_isSoWith_42 : zD cX7_isSoWith 42 (.iload 4) 2 44 := ⟨by decide +kernel, rfl⟩
theorem dX7_isSoWith_44 : zD cX7_isSoWith 44 (.iadd) 1 45 := ⟨by decide +kernel, rfl⟩
theorem dX7_isSoWith_45 : zD cX7_isSoWith 45 (.aload_n 0) 1 46 := ⟨by decide +kernel, rfl⟩
theorem dX7_isSoWith_46 : zD cX7_isSoWith 46 (.iload 4) 2 48 := ⟨by decide +kernel, rfl⟩
theorem dX7_isSoWith_48 : zD cX7_isSoWith 48 (.iconst 1) 1 49 := ⟨by decide +kernel, rfl⟩
theorem dX7_isSoWith_49 : zD cX7_isSoWith 49 (.invokevirtual 147) 3 52 := ⟨by decide +kernel, rfl⟩
theorem dX7_isSoWith_52 : zD cX7_isSoWith 52 (.iastore) 1 53 := ⟨by decide +kernel, rfl⟩
theorem dX7_isSoWith_53 : zD cX7_isSoWith 53 (.iinc 4 1) 3 56 := ⟨by decide +kernel, rfl⟩
theorem dX7_isSoWith_56 : zG cX7_isSoWith 56 22 := ⟨(-34), by decide +kernel, by decide⟩
theorem dX7_isSoWith_59 : zD cX7_isSoWith 59 (.aload_n 0) 1 60 := ⟨by decide +kernel, rfl⟩
theorem dX7_isSoWith_60 : zD cX7_isSoWith 60 (.iconst 0) 1 61 := ⟨by decide +kernel, rfl⟩
theorem dX7_isSoWith_61 : zD cX7_isSoWith 61 (.invokevirtual 166) 3 64 := ⟨by decide +kernel, rfl⟩
theorem dX7_isSoWith_64 : zD cX7_isSoWith 64 (.iinc 3 1) 3 67 := ⟨by decide +kernel, rfl⟩
theorem dX7_isSoWith_67 : zG cX7_isSoWith 67 13 := ⟨(-54), by decide +kernel, by decide⟩
theorem dX7_isSoWith_70 : zD cX7_isSoWith 70 (.iconst 1) 1 71 := ⟨by decide +kernel, rfl⟩
theorem dX7_isSoWith_71 : zD cX7_isSoWith 71 (.istore_n 3) 1 72 := ⟨by decide +kernel, rfl⟩
theorem dX7_isSoWith_72 : zD cX7_isSoWith 72 (.iconst 0) 1 73 := ⟨by decide +kernel, rfl⟩
theorem dX7_isSoWith_73 : zD cX7_isSoWith 73 (.istore 4) 2 75 := ⟨by decide +kernel, rfl⟩
theorem dX7_isSoWith_75 : zD cX7_isSoWith 75 (.iload 4) 2 77 := ⟨by decide +kernel, rfl⟩
theorem dX7_isSoWith_77 : zD cX7_isSoWith 77 (.aload_n 0) 1 78 := ⟨by decide +kernel, rfl⟩
theorem dX7_isSoWith_78 : zD cX7_isSoWith 78 (.getfield 7) 3 81 := ⟨by decide +kernel, rfl⟩
theorem dX7_isSoWith_81 : zD cX7_isSoWith 81 (.bipush 31) 2 83 := ⟨by decide +kernel, rfl⟩
theorem dX7_isSoWith_83 : zD cX7_isSoWith 83 (.iaload) 1 84 := ⟨by decide +kernel, rfl⟩
theorem dX7_isSoWith_84 : zJ cX7_isSoWith 84 (fun o => .if_icmp .ge o) 149 87 := ⟨65, by decide +kernel, by decide, rfl⟩
theorem dX7_isSoWith_87 : zD cX7_isSoWith 87 (.bipush 32) 2 89 := ⟨by decide +kernel, rfl⟩
theorem dX7_isSoWith_89 : zD cX7_isSoWith 89 (.iconst 3) 1 90 := ⟨by decide +kernel, rfl⟩
theorem dX7_isSoWith_90 : zD cX7_isSoWith 90 (.iload 4) 2 92 := ⟨by decide +kernel, rfl⟩
theorem dX7_isSoWith_92 : zD cX7_isSoWith 92 (.imul) 1 93 := ⟨by decide +kernel, rfl⟩
theorem dX7_isSoWith_93 : zD cX7_isSoWith 93 (.iadd) 1 94 := ⟨by decide +kernel, rfl⟩
theorem dX7_isSoWith_94 : zD cX7_isSoWith 94 (.istore 5) 2 96 := ⟨by decide +kernel, rfl⟩
theorem dX7_isSoWith_96 : zD cX7_isSoWith 96 (.iload_n 3) 1 97 := ⟨by decide +kernel, rfl⟩
theorem dX7_isSoWith_97 : zJ cX7_isSoWith 97 (fun o => .ifCond .eq o) 141 100 := ⟨44, by decide +kernel, by decide, rfl⟩
theorem dX7_isSoWith_100 : zD cX7_isSoWith 100 (.aload_n 0) 1 101 := ⟨by decide +kernel, rfl⟩
theorem dX7_isSoWith_101 : zD cX7_isSoWith 101 (.getfield 29) 3 104 := ⟨by decide +kernel, rfl⟩
theorem dX7_isSoWith_104 : zD cX7_isSoWith 104 (.bipush 6) 2 106 := ⟨by decide +kernel, rfl⟩
theorem dX7_isSoWith_106 : zD cX7_isSoWith 106 (.aload_n 0) 1 107 := ⟨by decide +kernel, rfl⟩
theorem dX7_isSoWith_107 : zD cX7_isSoWith 107 (.getfield 7) 3 110 := ⟨by decide +kernel, rfl⟩
theorem dX7_isSoWith_110 : zD cX7_isSoWith 110 (.iload 5) 2 112 := ⟨by decide +kernel, rfl⟩
theorem dX7_isSoWith_112 : zD cX7_isSoWith 112 (.iaload) 1 113 := ⟨by decide +kernel, rfl⟩
theorem dX7_isSoWith_113 : zD cX7_isSoWith 113 (.imul) 1 114 := ⟨by decide +kernel, rfl⟩
theorem dX7_isSoWith_114 : zD cX7_isSoWith 114 (.aload_n 0) 1 115 := ⟨by decide +kernel, rfl⟩
theorem dX7_isSoWith_115 : zD cX7_isSoWith 115 (.getfield 7) 3 118 := ⟨by decide +kernel, rfl⟩
theorem dX7_isSoWith_118 : zD cX7_isSoWith 118 (.iload 5) 2 120 := ⟨by decide +kernel, rfl⟩
theorem dX7_isSoWith_120 : zD cX7_isSoWith 120 (.iconst 1) 1 121 := ⟨by decide +kernel, rfl⟩
theorem dX7_isSoWith_121 : zD cX7_isSoWith 121 (.iadd) 1 122 := ⟨by decide +kernel, rfl⟩
theorem dX7_isSoWith_122 : zD cX7_isSoWith 122 (.iaload) 1 123 := ⟨by decide +kernel, rfl⟩
theorem dX7_isSoWith_123 : zD cX7_isSoWith 123 (.iadd) 1 124 := ⟨by decide +kernel, rfl⟩
theorem dX7_isSoWith_124 : zD cX7_isSoWith 124 (.iaload) 1 125 := ⟨by decide +kernel, rfl⟩
theorem dX7_isSoWith_125 : zD cX7_isSoWith 125 (.aload_n 0) 1 126 := ⟨by decide +kernel, rfl⟩
theorem dX7_isSoWith_126 : zD cX7_isSoWith 126 (.getfield 7) 3 129 := ⟨by decide +kernel, rfl⟩
theorem dX7_isSoWith_129 : zD cX7_isSoWith 129 (.iload 5) 2 131 := ⟨by decide +kernel, rfl⟩
theorem dX7_isSoWith_131 : zD cX7_isSoWith 131 (.iconst 2) 1 132 := ⟨by decide +kernel, rfl⟩
theorem dX7_isSoWith_132 : zD cX7_isSoWith 132 (.iadd) 1 133 := ⟨by decide +kernel, rfl⟩
theorem dX7_isSoWith_133 : zD cX7_isSoWith 133 (.iaload) 1 134 := ⟨by decide +kernel, rfl⟩
theorem dX7_isSoWith_134 : zJ cX7_isSoWith 134 (fun o => .if_icmp .ne o) 141 137 := ⟨7, by decide +kernel, by decide, rfl⟩
theorem dX7_isSoWith_137 : zD cX7_isSoWith 137 (.iconst 1) 1 138 := ⟨by decide +kernel, rfl⟩
theorem dX7_isSoWith_138 : zG cX7_isSoWith 138 142 := ⟨4, by decide +kernel, by decide⟩
theorem dX7_isSoWith_141 : zD cX7_isSoWith 141 (.iconst 0) 1 142 := ⟨by decide +kernel, rfl⟩
theorem dX7_isSoWith_142 : zD cX7_isSoWith 142 (.istore_n 3) 1 143 := ⟨by decide +kernel, rfl⟩
theorem dX7_isSoWith_143 : zD cX7_isSoWith 143 (.iinc 4 1) 3 146 := ⟨by decide +kernel, rfl⟩
theorem dX7_isSoWith_146 : zG cX7_isSoWith 146 75 := ⟨(-71), by decide +kernel, by decide⟩
theorem dX7_isSoWith_149 : zD cX7_isSoWith 149 (.iload_n 3) 1 150 := ⟨by decide +kernel, rfl⟩
theorem dX7_isSoWith_150 : zD cX7_isSoWith 150 (.ireturn) 1 151 := ⟨by decide +kernel, rfl⟩
theorem dX7_which_0 : zD cX7_which 0 (.iconst 0) 1 1 := ⟨by decide +kernel, rfl⟩
theorem dX7_which_1 : zD cX7_which 1 (.istore_n 3) 1 2 := ⟨by decide +kernel, rfl⟩
theorem dX7_which_2 : zD cX7_which 2 (.iconst 0) 1 3 := ⟨by decide +kernel, rfl⟩
theorem dX7_which_3 : zD cX7_which 3 (.istore 4) 2 5 := ⟨by decide +kernel, rfl⟩
theorem dX7_which_5 : zD cX7_which 5 (.iload 4) 2 7 := ⟨by decide +kernel, rfl⟩
theorem dX7_which_7 : zD cX7_which 7 (.iload_n 2) 1 8 := ⟨by decide +kernel, rfl⟩
theorem dX7_which_8 : zJ cX7_which 8 (fun o => .if_icmp .gt o) 33 11 := ⟨25, by decide +kernel, by decide, rfl⟩
theorem dX7_which_11 : zD cX7_which 11 (.iload_n 3) 1 12 := ⟨by decide +kernel, rfl⟩
theorem dX7_which_12 : zD cX7_which 12 (.aload_n 0) 1 13 := ⟨by decide +kernel, rfl⟩
theorem dX7_which_13 : zD cX7_which 13 (.iload_n 1) 1 14 := ⟨by decide +kernel, rfl⟩
theorem dX7_which_14 : zD cX7_which 14 (.iload 4) 2 16 := ⟨by decide +kernel, rfl⟩
theorem dX7_which_16 : zD cX7_which 16 (.invokevirtual 275) 3 19 := ⟨by decide +kernel, rfl⟩
theorem dX7_which_19 : zD cX7_which 19 (.invokestatic 176) 3 22 := ⟨by decide +kernel, rfl⟩
theorem dX7_which_22 : zD cX7_which 22 (.iload 4) 2 24 := ⟨by decide +kernel, rfl⟩
theorem dX7_which_24 : zD cX7_which 24 (.ishl) 1 25 := ⟨by decide +kernel, rfl⟩
theorem dX7_which_25 : zD cX7_which 25 (.ior) 1 26 := ⟨by decide +kernel, rfl⟩
theorem dX7_which_26 : zD cX7_which 26 (.istore_n 3) 1 27 := ⟨by decide +kernel, rfl⟩
theorem dX7_which_27 : zD cX7_which 27 (.iinc 4 1) 3 30 := ⟨by decide +kernel, rfl⟩
theorem dX7_which_30 : zG cX7_which 30 5 := ⟨(-25), by decide +kernel, by decide⟩
theorem dX7_which_33 : zD cX7_which 33 (.iload_n 3) 1 34 := ⟨by decide +kernel, rfl⟩
theorem dX7_which_34 : zD cX7_which 34 (.ireturn) 1 35 := ⟨by decide +kernel, rfl⟩
theorem dX7_kinds_0 : zD cX7_kinds 0 (.aload_n 0) 1 1 := ⟨by decide +kernel, rfl⟩
theorem dX7_kinds_1 : zD cX7_kinds 1 (.iload_n 1) 1 2 := ⟨by decide +kernel, rfl⟩
theorem dX7_kinds_2 : zD cX7_kinds 2 (.invokevirtual 183) 3 5 := ⟨by decide +kernel, rfl⟩
theorem dX7_kinds_5 : zJ cX7_kinds 5 (fun o => .ifCond .eq o) 21 8 := ⟨16, by decide +kernel, by decide, rfl⟩
theorem dX7_kinds_8 : zD cX7_kinds 8 (.aload_n 0) 1 9 := ⟨by decide +kernel, rfl⟩
theorem dX7_kinds_9 : zD cX7_kinds 9 (.iconst 3) 1 10 := ⟨by decide +kernel, rfl⟩
theorem dX7_kinds_10 : zD cX7_kinds 10 (.iload_n 1) 1 11 := ⟨by decide +kernel, rfl⟩
theorem dX7_kinds_11 : zD cX7_kinds 11 (.imul) 1 12 := ⟨by decide +kernel, rfl⟩
theorem dX7_kinds_12 : zD cX7_kinds 12 (.iconst 0) 1 13 := ⟨by decide +kernel, rfl⟩
theorem dX7_kinds_13 : zD cX7_kinds 13 (.iadd) 1 14 := ⟨by decide +kernel, rfl⟩
theorem dX7_kinds_14 : zD cX7_kinds 14 (.iconst 3) 1 15 := ⟨by decide +kernel, rfl⟩
theorem dX7_kinds_15 : zD cX7_kinds 15 (.invokevirtual 278) 3 18 := ⟨by decide +kernel, rfl⟩
theorem dX7_kinds_18 : zG cX7_kinds 18 22 := ⟨4, by decide +kernel, by decide⟩
theorem dX7_kinds_21 : zD cX7_kinds 21 (.iconst (-1)) 1 22 := ⟨by decide +kernel, rfl⟩
theorem dX7_kinds_22 : zD cX7_kinds 22 (.ireturn) 1 23 := ⟨by decide +kernel, rfl⟩
theorem dX7_blights_0 : zD cX7_blights 0 (.aload_n 0) 1 1 := ⟨by decide +kernel, rfl⟩
theorem dX7_blights_1 : zD cX7_blights 1 (.iload_n 1) 1 2 := ⟨by decide +kernel, rfl⟩
theorem dX7_blights_2 : zD cX7_blights 2 (.invokevirtual 183) 3 5 := ⟨by decide +kernel, rfl⟩
theorem dX7_blights_5 : zJ cX7_blights 5 (fun o => .ifCond .eq o) 22 8 := ⟨17, by decide +kernel, by decide, rfl⟩
theorem dX7_blights_8 : zD cX7_blights 8 (.aload_n 0) 1 9 := ⟨by decide +kernel, rfl⟩
theorem dX7_blights_9 : zD cX7_blights 9 (.iconst 3) 1 10 := ⟨by decide +kernel, rfl⟩
theorem dX7_blights_10 : zD cX7_blights 10 (.iload_n 1) 1 11 := ⟨by decide +kernel, rfl⟩
theorem dX7_blights_11 : zD cX7_blights 11 (.imul) 1 12 := ⟨by decide +kernel, rfl⟩
theorem dX7_blights_12 : zD cX7_blights 12 (.iconst 2) 1 13 := ⟨by decide +kernel, rfl⟩
theorem dX7_blights_13 : zD cX7_blights 13 (.iadd) 1 14 := ⟨by decide +kernel, rfl⟩
theorem dX7_blights_14 : zD cX7_blights 14 (.bipush 9) 2 16 := ⟨by decide +kernel, rfl⟩
theorem dX7_blights_16 : zD cX7_blights 16 (.invokevirtual 278) 3 19 := ⟨by decide +kernel, rfl⟩
theorem dX7_blights_19 : zG cX7_blights 19 23 := ⟨4, by decide +kernel, by decide⟩
theorem dX7_blights_22 : zD cX7_blights 22 (.iconst (-1)) 1 23 := ⟨by decide +kernel, rfl⟩
theorem dX7_blights_23 : zD cX7_blights 23 (.ireturn) 1 24 := ⟨by decide +kernel, rfl⟩
theorem dX7_ask_0 : zD cX7_ask 0 (.aload_n 0) 1 1 := ⟨by decide +kernel, rfl⟩
theorem dX7_ask_1 : zD cX7_ask 1 (.iload_n 1) 1 2 := ⟨by decide +kernel, rfl⟩
theorem dX7_ask_2 : zD cX7_ask 2 (.invokevirtual 183) 3 5 := ⟨by decide +kernel, rfl⟩
theorem dX7_ask_5 : zJ cX7_ask 5 (fun o => .ifCond .eq o) 15 8 := ⟨10, by decide +kernel, by decide, rfl⟩
theorem dX7_ask_8 : zD cX7_ask 8 (.iload_n 2) 1 9 := ⟨by decide +kernel, rfl⟩
theorem dX7_ask_9 : zD cX7_ask 9 (.invokestatic 190) 3 12 := ⟨by decide +kernel, rfl⟩
theorem dX7_ask_12 : zJ cX7_ask 12 (fun o => .ifCond .ne o) 17 15 := ⟨5, by decide +kernel, by decide, rfl⟩
theorem dX7_ask_15 : zD cX7_ask 15 (.iconst (-1)) 1 16 := ⟨by decide +kernel, rfl⟩
theorem dX7_ask_16 : zD cX7_ask 16 (.ireturn) 1 17 := ⟨by decide +kernel, rfl⟩
theorem dX7_ask_17 : zD cX7_ask 17 (.iconst 0) 1 18 := ⟨by decide +kernel, rfl⟩
theorem dX7_ask_18 : zD cX7_ask 18 (.istore_n 3) 1 19 := ⟨by decide +kernel, rfl⟩
theorem dX7_ask_19 : zD cX7_ask 19 (.iconst 0) 1 20 := ⟨by decide +kernel, rfl⟩
theorem dX7_ask_20 : zD cX7_ask 20 (.istore 4) 2 22 := ⟨by decide +kernel, rfl⟩
theorem dX7_ask_22 : zD cX7_ask 22 (.iload 4) 2 24 := ⟨by decide +kernel, rfl⟩
theorem dX7_ask_24 : zD cX7_ask 24 (.bipush 9) 2 26 := ⟨by decide +kernel, rfl⟩
theorem dX7_ask_26 : zJ cX7_ask 26 (fun o => .if_icmp .gt o) 92 29 := ⟨66, by decide +kernel, by decide, rfl⟩
theorem dX7_ask_29 : zD cX7_ask 29 (.aload_n 0) 1 30 := ⟨by decide +kernel, rfl⟩
theorem dX7_ask_30 : zD cX7_ask 30 (.iconst 3) 1 31 := ⟨by decide +kernel, rfl⟩
theorem dX7_ask_31 : zD cX7_ask 31 (.iload_n 1) 1 32 := ⟨by decide +kernel, rfl⟩
theorem dX7_ask_32 : zD cX7_ask 32 (.imul) 1 33 := ⟨by decide +kernel, rfl⟩
theorem dX7_ask_33 : zD cX7_ask 33 (.iconst 2) 1 34 := ⟨by decide +kernel, rfl⟩
theorem dX7_ask_34 : zD cX7_ask 34 (.iadd) 1 35 := ⟨by decide +kernel, rfl⟩
theorem dX7_ask_35 : zD cX7_ask 35 (.iload 4) 2 37 := ⟨by decide +kernel, rfl⟩
theorem dX7_ask_37 : zD cX7_ask 37 (.invokevirtual 275) 3 40 := ⟨by decide +kernel, rfl⟩
theorem dX7_ask_40 : zJ cX7_ask 40 (fun o => .ifCond .eq o) 86 43 := ⟨46, by decide +kernel, by decide, rfl⟩
theorem dX7_ask_43 : zD cX7_ask 43 (.iconst 0) 1 44 := ⟨by decide +kernel, rfl⟩
theorem dX7_ask_44 : zD cX7_ask 44 (.istore 5) 2 46 := ⟨by decide +kernel, rfl⟩
theorem dX7_ask_46 : zD cX7_ask 46 (.iload 5) 2 48 := ⟨by decide +kernel, rfl⟩
theorem dX7_ask_48 : zD cX7_ask 48 (.bipush 20) 2 50 := ⟨by decide +kernel, rfl⟩
theorem dX7_ask_50 : zJ cX7_ask 50 (fun o => .if_icmp .gt o) 83 53 := ⟨33, by decide +kernel, by decide, rfl⟩
theorem dX7_ask_53 : zD cX7_ask 53 (.aload_n 0) 1 54 := ⟨by decide +kernel, rfl⟩
theorem dX7_ask_54 : zD cX7_ask 54 (.getfield 32) 3 57 := ⟨by decide +kernel, rfl⟩
theorem dX7_ask_57 : zD cX7_ask 57 (.bipush 21) 2 59 := ⟨by decide +kernel, rfl⟩
theorem dX7_ask_59 : zD cX7_ask 59 (.iload_n 3) 1 60 := ⟨by decide +kernel, rfl⟩
theorem dX7_ask_60 : zD cX7_ask 60 (.imul) 1 61 := ⟨by decide +kernel, rfl⟩
theorem dX7_ask_61 : zD cX7_ask 61 (.iload 5) 2 63 := ⟨by decide +kernel, rfl⟩
theorem dX7_ask_63 : zD cX7_ask 63 (.iadd) 1 64 := ⟨by decide +kernel, rfl⟩
theorem dX7_ask_64 : zD cX7_ask 64 (.aload_n 0) 1 65 := ⟨by decide +kernel, rfl⟩
theorem dX7_ask_65 : zD cX7_ask 65 (.getfield 29) 3 68 := ⟨by decide +kernel, rfl⟩
theorem dX7_ask_68 : zD cX7_ask 68 (.bipush 6) 2 70 := ⟨by decide +kernel, rfl⟩
theorem dX7_ask_70 : zD cX7_ask 70 (.iload 5) 2 72 := ⟨by decide +kernel, rfl⟩
theorem dX7_ask_72 : zD cX7_ask 72 (.imul) 1 73 := ⟨by decide +kernel, rfl⟩
theorem dX7_ask_73 : zD cX7_ask 73 (.iload_n 1) 1 74 := ⟨by decide +kernel, rfl⟩
theorem dX7_ask_74 : zD cX7_ask 74 (.iadd) 1 75 := ⟨by decide +kernel, rfl⟩
theorem dX7_ask_75 : zD cX7_ask 75 (.iaload) 1 76 := ⟨by decide +kernel, rfl⟩
theorem dX7_ask_76 : zD cX7_ask 76 (.iastore) 1 77 := ⟨by decide +kernel, rfl⟩
theorem dX7_ask_77 : zD cX7_ask 77 (.iinc 5 1) 3 80 := ⟨by decide +kernel, rfl⟩
theorem dX7_ask_80 : zG cX7_ask 80 46 := ⟨(-34), by decide +kernel, by decide⟩
theorem dX7_ask_83 : zD cX7_ask 83 (.iinc 3 1) 3 86 := ⟨by decide +kernel, rfl⟩
theorem dX7_ask_86 : zD cX7_ask 86 (.iinc 4 1) 3 89 := ⟨by decide +kernel, rfl⟩
theorem dX7_ask_89 : zG cX7_ask 89 22 := ⟨(-67), by decide +kernel, by decide⟩
theorem dX7_ask_92 : zD cX7_ask 92 (.iload_n 3) 1 93 := ⟨by decide +kernel, rfl⟩
theorem dX7_ask_93 : zD cX7_ask 93 (.istore 4) 2 95 := ⟨by decide +kernel, rfl⟩
theorem dX7_ask_95 : zD cX7_ask 95 (.bipush (-4)) 2 97 := ⟨by decide +kernel, rfl⟩
theorem dX7_ask_97 : zD cX7_ask 97 (.istore 5) 2 99 := ⟨by decide +kernel, rfl⟩
theorem dX7_ask_99 : zD cX7_ask 99 (.iconst 0) 1 100 := ⟨by decide +kernel, rfl⟩
theorem dX7_ask_100 : zD cX7_ask 100 (.istore 6) 2 102 := ⟨by decide +kernel, rfl⟩
theorem dX7_ask_102 : zD cX7_ask 102 (.iload 6) 2 104 := ⟨by decide +kernel, rfl⟩
theorem dX7_ask_104 : zD cX7_ask 104 (.bipush 20) 2 106 := ⟨by decide +kernel, rfl⟩
theorem dX7_ask_106 : zJ cX7_ask 106 (fun o => .if_icmp .gt o) 224 109 := ⟨118, by decide +kernel, by decide, rfl⟩
theorem dX7_ask_109 : zD cX7_ask 109 (.iconst 0) 1 110 := ⟨by decide +kernel, rfl⟩
theorem dX7_ask_110 : zD cX7_ask 110 (.istore 7) 2 112 := ⟨by decide +kernel, rfl⟩
theorem dX7_ask_112 : zD cX7_ask 112 (.iconst 0) 1 113 := ⟨by decide +kernel, rfl⟩
theorem dX7_ask_113 : zD cX7_ask 113 (.istore 8) 2 115 := ⟨by decide +kernel, rfl⟩
theorem dX7_ask_115 : zD cX7_ask 115 (.iload 8) 2 117 := ⟨by decide +kernel, rfl⟩
theorem dX7_ask_117 : zD cX7_ask 117 (.iload_n 3) 1 118 := ⟨by decide +kernel, rfl⟩
theorem dX7_ask_118 : zJ cX7_ask 118 (fun o => .if_icmp .ge o) 203 121 := ⟨85, by decide +kernel, by decide, rfl⟩
theorem dX7_ask_121 : zD cX7_ask 121 (.iconst 0) 1 122 := ⟨by decide +kernel, rfl⟩
theorem dX7_ask_122 : zD cX7_ask 122 (.istore 9) 2 124 := ⟨by decide +kernel, rfl⟩
theorem dX7_ask_124 : zD cX7_ask 124 (.iconst 0) 1 125 := ⟨by decide +kernel, rfl⟩
theorem dX7_ask_125 : zD cX7_ask 125 (.istore 10) 2 127 := ⟨by decide +kernel, rfl⟩
theorem dX7_ask_127 : zD cX7_ask 127 (.iload 10) 2 129 := ⟨by decide +kernel, rfl⟩
theorem dX7_ask_129 : zD cX7_ask 129 (.iload_n 3) 1 130 := ⟨by decide +kernel, rfl⟩
theorem dX7_ask_130 : zJ cX7_ask 130 (fun o => .if_icmp .ge o) 181 133 := ⟨51, by decide +kernel, by decide, rfl⟩
theorem dX7_ask_133 : zD cX7_ask 133 (.iload 9) 2 135 := ⟨by decide +kernel, rfl⟩
theorem dX7_ask_135 : zD cX7_ask 135 (.aload_n 0) 1 136 := ⟨by decide +kernel, rfl⟩
theorem dX7_ask_136 : zD cX7_ask 136 (.getfield 32) 3 139 := ⟨by decide +kernel, rfl⟩
theorem dX7_ask_139 : zD cX7_ask 139 (.bipush 21) 2 141 := ⟨by decide +kernel, rfl⟩
theorem dX7_ask_141 : zD cX7_ask 141 (.iload 8) 2 143 := ⟨by decide +kernel, rfl⟩
theorem dX7_ask_143 : zD cX7_ask 143 (.imul) 1 144 := ⟨by decide +kernel, rfl⟩
theorem dX7_ask_144 : zD cX7_ask 144 (.iload 6) 2 146 := ⟨by decide +kernel, rfl⟩
theorem dX7_ask_146 : zD cX7_ask 146 (.iadd) 1 147 := ⟨by decide +kernel, rfl⟩
theorem dX7_ask_147 : zD cX7_ask 147 (.iaload) 1 148 := ⟨by decide +kernel, rfl⟩
theorem dX7_ask_148 : zD cX7_ask 148 (.aload_n 0) 1 149 := ⟨by decide +kernel, rfl⟩
theorem dX7_ask_149 : zD cX7_ask 149 (.getfield 32) 3 152 := ⟨by decide +kernel, rfl⟩
theorem dX7_ask_152 : zD cX7_ask 152 (.bipush 21) 2 154 := ⟨by decide +kernel, rfl⟩
theorem dX7_ask_154 : zD cX7_ask 154 (.iload 10) 2 156 := ⟨by decide +kernel, rfl⟩
theorem dX7_ask_156 : zD cX7_ask 156 (.imul) 1 157 := ⟨by decide +kernel, rfl⟩
theorem dX7_ask_157 : zD cX7_ask 157 (.iload 6) 2 159 := ⟨by decide +kernel, rfl⟩
theorem dX7_ask_159 : zD cX7_ask 159 (.iadd) 1 160 := ⟨by decide +kernel, rfl⟩
theorem dX7_ask_160 : zD cX7_ask 160 (.iaload) 1 161 := ⟨by decide +kernel, rfl⟩
theorem dX7_ask_161 : zJ cX7_ask 161 (fun o => .if_icmp .ne o) 168 164 := ⟨7, by decide +kernel, by decide, rfl⟩
theorem dX7_ask_164 : zD cX7_ask 164 (.iconst 1) 1 165 := ⟨by decide +kernel, rfl⟩
theorem dX7_ask_165 : zG cX7_ask 165 169 := ⟨4, by decide +kernel, by decide⟩
theorem dX7_ask_168 : zD cX7_ask 168 (.iconst 0) 1 169 := ⟨by decide +kernel, rfl⟩
theorem dX7_ask_169 : zD cX7_ask 169 (.invokestatic 176) 3 172 := ⟨by decide +kernel, rfl⟩
theorem dX7_ask_172 : zD cX7_ask 172 (.iadd) 1 173 := ⟨by decide +kernel, rfl⟩
theorem dX7_ask_173 : zD cX7_ask 173 (.istore 9) 2 175 := ⟨by decide +kernel, rfl⟩
theorem dX7_ask_175 : zD cX7_ask 175 (.iinc 10 1) 3 178 := ⟨by decide +kernel, rfl⟩
theorem dX7_ask_178 : zG cX7_ask 178 127 := ⟨(-51), by decide +kernel, by decide⟩
theorem dX7_ask_181 : zD cX7_ask 181 (.iload 9) 2 183 := ⟨by decide +kernel, rfl⟩
theorem dX7_ask_183 : zD cX7_ask 183 (.iload 7) 2 185 := ⟨by decide +kernel, rfl⟩
theorem dX7_ask_185 : zJ cX7_ask 185 (fun o => .if_icmp .le o) 193 188 := ⟨8, by decide +kernel, by decide, rfl⟩
theorem dX7_ask_188 : zD cX7_ask 188 (.iload 9) 2 190 := ⟨by decide +kernel, rfl⟩
theorem dX7_ask_190 : zG cX7_ask 190 195 := ⟨5, by decide +kernel, by decide⟩
theorem dX7_ask_193 : zD cX7_ask 193 (.iload 7) 2 195 := ⟨by decide +kernel, rfl⟩
theorem dX7_ask_195 : zD cX7_ask 195 (.istore 7) 2 197 := ⟨by decide +kernel, rfl⟩
theorem dX7_ask_197 : zD cX7_ask 197 (.iinc 8 1) 3 200 := ⟨by decide +kernel, rfl⟩
theorem dX7_ask_200 : zG cX7_ask 200 115 := ⟨(-85), by decide +kernel, by decide⟩
theorem dX7_ask_203 : zD cX7_ask 203 (.iload 7) 2 205 := ⟨by decide +kernel, rfl⟩
theorem dX7_ask_205 : zD cX7_ask 205 (.iload 4) 2 207 := ⟨by decide +kernel, rfl⟩
theorem dX7_ask_207 : zJ cX7_ask 207 (fun o => .if_icmp .ge o) 218 210 := ⟨11, by decide +kernel, by decide, rfl⟩
theorem dX7_ask_210 : zD cX7_ask 210 (.iload 7) 2 212 := ⟨by decide +kernel, rfl⟩
theorem dX7_ask_212 : zD cX7_ask 212 (.istore 4) 2 214 := ⟨by decide +kernel, rfl⟩
theorem dX7_ask_214 : zD cX7_ask 214 (.iload 6) 2 216 := ⟨by decide +kernel, rfl⟩
theorem dX7_ask_216 : zD cX7_ask 216 (.istore 5) 2 218 := ⟨by decide +kernel, rfl⟩
theorem dX7_ask_218 : zD cX7_ask 218 (.iinc 6 1) 3 221 := ⟨by decide +kernel, rfl⟩
theorem dX7_ask_221 : zG cX7_ask 221 102 := ⟨(-119), by decide +kernel, by decide⟩
theorem dX7_ask_224 : zD cX7_ask 224 (.iload 5) 2 226 := ⟨by decide +kernel, rfl⟩
theorem dX7_ask_226 : zD cX7_ask 226 (.bipush (-4)) 2 228 := ⟨by decide +kernel, rfl⟩
theorem dX7_ask_228 : zJ cX7_ask 228 (fun o => .if_icmp .ne o) 236 231 := ⟨8, by decide +kernel, by decide, rfl⟩
theorem dX7_ask_231 : zD cX7_ask 231 (.bipush (-4)) 2 233 := ⟨by decide +kernel, rfl⟩
theorem dX7_ask_233 : zG cX7_ask 233 247 := ⟨14, by decide +kernel, by decide⟩
theorem dX7_ask_236 : zD cX7_ask 236 (.iload_n 2) 1 237 := ⟨by decide +kernel, rfl⟩
theorem dX7_ask_237 : zJ cX7_ask 237 (fun o => .ifCond .ne o) 245 240 := ⟨8, by decide +kernel, by decide, rfl⟩
theorem dX7_ask_240 : zD cX7_ask 240 (.iload 5) 2 242 := ⟨by decide +kernel, rfl⟩
theorem dX7_ask_242 : zG cX7_ask 242 247 := ⟨5, by decide +kernel, by decide⟩
theorem dX7_ask_245 : zD cX7_ask 245 (.iload 4) 2 247 := ⟨by decide +kernel, rfl⟩
theorem dX7_ask_247 : zD cX7_ask 247 (.ireturn) 1 248 := ⟨by decide +kernel, rfl⟩
theorem dX7_drift_0 : zD cX7_drift 0 (.iload_n 2) 1 1 := ⟨by decide +kernel, rfl⟩
theorem dX7_drift_1 : zD cX7_drift 1 (.i2l) 1 2 := ⟨by decide +kernel, rfl⟩
theorem dX7_drift_2 : zD cX7_drift 2 (.lconst 1) 1 3 := ⟨by decide +kernel, rfl⟩
theorem dX7_drift_3 : zD cX7_drift 3 (.ldc2_w 211) 3 6 := ⟨by decide +kernel, rfl⟩
theorem dX7_drift_6 : zD cX7_drift 6 (.invokestatic 63) 3 9 := ⟨by decide +kernel, rfl⟩
theorem dX7_drift_9 : zJ cX7_drift 9 (fun o => .ifCond .eq o) 19 12 := ⟨10, by decide +kernel, by decide, rfl⟩
theorem dX7_drift_12 : zD cX7_drift 12 (.iload_n 3) 1 13 := ⟨by decide +kernel, rfl⟩
theorem dX7_drift_13 : zD cX7_drift 13 (.invokestatic 190) 3 16 := ⟨by decide +kernel, rfl⟩
theorem dX7_drift_16 : zJ cX7_drift 16 (fun o => .ifCond .ne o) 21 19 := ⟨5, by decide +kernel, by decide, rfl⟩
theorem dX7_drift_19 : zD cX7_drift 19 (.iconst (-1)) 1 20 := ⟨by decide +kernel, rfl⟩
theorem dX7_drift_20 : zD cX7_drift 20 (.ireturn) 1 21 := ⟨by decide +kernel, rfl⟩
theorem dX7_drift_21 : zD cX7_drift 21 (.aload_n 0) 1 22 := ⟨by decide +kernel, rfl⟩
theorem dX7_drift_22 : zD cX7_drift 22 (.getfield 7) 3 25 := ⟨by decide +kernel, rfl⟩
theorem dX7_drift_25 : zD cX7_drift 25 (.bipush 27) 2 27 := ⟨by decide +kernel, rfl⟩
theorem dX7_drift_27 : zD cX7_drift 27 (.iaload) 1 28 := ⟨by decide +kernel, rfl⟩
theorem dX7_drift_28 : zJ cX7_drift 28 (fun o => .ifCond .ne o) 34 31 := ⟨6, by decide +kernel, by decide, rfl⟩
theorem dX7_drift_31 : zD cX7_drift 31 (.bipush (-2)) 2 33 := ⟨by decide +kernel, rfl⟩
theorem dX7_drift_33 : zD cX7_drift 33 (.ireturn) 1 34 := ⟨by decide +kernel, rfl⟩
theorem dX7_drift_34 : zD cX7_drift 34 (.iload_n 1) 1 35 := ⟨by decide +kernel, rfl⟩
theorem dX7_drift_35 : zD cX7_drift 35 (.istore 4) 2 37 := ⟨by decide +kernel, rfl⟩
theorem dX7_drift_37 : zD cX7_drift 37 (.aload_n 0) 1 38 := ⟨by decide +kernel, rfl⟩
theorem dX7_drift_38 : zD cX7_drift 38 (.invokevirtual 180) 3 41 := ⟨by decide +kernel, rfl⟩
theorem dX7_drift_41 : zD cX7_drift 41 (.iconst 0) 1 42 := ⟨by decide +kernel, rfl⟩
theorem dX7_drift_42 : zD cX7_drift 42 (.istore 5) 2 44 := ⟨by decide +kernel, rfl⟩
theorem dX7_drift_44 : zD cX7_drift 44 (.iload 5) 2 46 := ⟨by decide +kernel, rfl⟩
theorem dX7_drift_46 : zD cX7_drift 46 (.iload_n 2) 1 47 := ⟨by decide +kernel, rfl⟩
theorem dX7_drift_47 : zJ cX7_drift 47 (fun o => .if_icmp .ge o) 112 50 := ⟨65, by decide +kernel, by decide, rfl⟩
theorem dX7_drift_50 : zD cX7_drift 50 (.iload 4) 2 52 := ⟨by decide +kernel, rfl⟩
theorem dX7_drift_52 : zD cX7_drift 52 (.ldc_w 281) 3 55 := ⟨by decide +kernel, rfl⟩
theorem dX7_drift_55 : zD cX7_drift 55 (.imul) 1 56 := ⟨by decide +kernel, rfl⟩
theorem dX7_drift_56 : zD cX7_drift 56 (.sipush 12345) 3 59 := ⟨by decide +kernel, rfl⟩
theorem dX7_drift_59 : zD cX7_drift 59 (.iadd) 1 60 := ⟨by decide +kernel, rfl⟩
theorem dX7_drift_60 : zD cX7_drift 60 (.istore 4) 2 62 := ⟨by decide +kernel, rfl⟩
theorem dX7_drift_62 : zD cX7_drift 62 (.iload 4) 2 64 := ⟨by decide +kernel, rfl⟩
theorem dX7_drift_64 : zD cX7_drift 64 (.bipush 16) 2 66 := ⟨by decide +kernel, rfl⟩
theorem dX7_drift_66 : zD cX7_drift 66 (.ishr) 1 67 := ⟨by decide +kernel, rfl⟩
theorem dX7_drift_67 : zD cX7_drift 67 (.sipush 32767) 3 70 := ⟨by decide +kernel, rfl⟩
theorem dX7_drift_70 : zD cX7_drift 70 (.iand) 1 71 := ⟨by decide +kernel, rfl⟩
theorem dX7_drift_71 : zD cX7_drift 71 (.istore 6) 2 73 := ⟨by decide +kernel, rfl⟩
theorem dX7_drift_73 : zD cX7_drift 73 (.aload_n 0) 1 74 := ⟨by decide +kernel, rfl⟩
theorem dX7_drift_74 : zD cX7_drift 74 (.iload 6) 2 76 := ⟨by decide +kernel, rfl⟩
theorem dX7_drift_76 : zD cX7_drift 76 (.aload_n 0) 1 77 := ⟨by decide +kernel, rfl⟩
theorem dX7_drift_77 : zD cX7_drift 77 (.getfield 7) 3 80 := ⟨by decide +kernel, rfl⟩
theorem dX7_drift_80 : zD cX7_drift 80 (.bipush 27) 2 82 := ⟨by decide +kernel, rfl⟩
theorem dX7_drift_82 : zD cX7_drift 82 (.iaload) 1 83 := ⟨by decide +kernel, rfl⟩
theorem dX7_drift_83 : zD cX7_drift 83 (.irem) 1 84 := ⟨by decide +kernel, rfl⟩
theorem dX7_drift_84 : zD cX7_drift 84 (.iconst 0) 1 85 := ⟨by decide +kernel, rfl⟩
theorem dX7_drift_85 : zD cX7_drift 85 (.iload 6) 2 87 := ⟨by decide +kernel, rfl⟩
theorem dX7_drift_87 : zD cX7_drift 87 (.bipush 8) 2 89 := ⟨by decide +kernel, rfl⟩
theorem dX7_drift_89 : zD cX7_drift 89 (.idiv) 1 90 := ⟨by decide +kernel, rfl⟩
theorem dX7_drift_90 : zD cX7_drift 90 (.aload_n 0) 1 91 := ⟨by decide +kernel, rfl⟩
theorem dX7_drift_91 : zD cX7_drift 91 (.getfield 7) 3 94 := ⟨by decide +kernel, rfl⟩
theorem dX7_drift_94 : zD cX7_drift 94 (.bipush 18) 2 96 := ⟨by decide +kernel, rfl⟩
theorem dX7_drift_96 : zD cX7_drift 96 (.iaload) 1 97 := ⟨by decide +kernel, rfl⟩
theorem dX7_drift_97 : zD cX7_drift 97 (.irem) 1 98 := ⟨by decide +kernel, rfl⟩
theorem dX7_drift_98 : zD cX7_drift 98 (.invokevirtual 230) 3 101 := ⟨by decide +kernel, rfl⟩
theorem dX7_drift_101 : zD cX7_drift 101 (.aload_n 0) 1 102 := ⟨by decide +kernel, rfl⟩
theorem dX7_drift_102 : zD cX7_drift 102 (.iconst 0) 1 103 := ⟨by decide +kernel, rfl⟩
theorem dX7_drift_103 : zD cX7_drift 103 (.invokevirtual 166) 3 106 := ⟨by decide +kernel, rfl⟩
theorem dX7_drift_106 : zD cX7_drift 106 (.iinc 5 1) 3 109 := ⟨by decide +kernel, rfl⟩
theorem dX7_drift_109 : zG cX7_drift 109 44 := ⟨(-65), by decide +kernel, by decide⟩
theorem dX7_drift_112 : zD cX7_drift 112 (.iload_n 3) 1 113 := ⟨by decide +kernel, rfl⟩
theorem dX7_drift_113 : zJ cX7_drift 113 (fun o => .ifCond .ne o) 124 116 := ⟨11, by decide +kernel, by decide, rfl⟩
theorem dX7_drift_116 : zD cX7_drift 116 (.aload_n 0) 1 117 := ⟨by decide +kernel, rfl⟩
theorem dX7_drift_117 : zD cX7_drift 117 (.iconst 1) 1 118 := ⟨by decide +kernel, rfl⟩
theorem dX7_drift_118 : zD cX7_drift 118 (.invokevirtual 173) 3 121 := ⟨by decide +kernel, rfl⟩
theorem dX7_drift_121 : zG cX7_drift 121 131 := ⟨10, by decide +kernel, by decide⟩
theorem dX7_drift_124 : zD cX7_drift 124 (.aload_n 0) 1 125 := ⟨by decide +kernel, rfl⟩
theorem dX7_drift_125 : zD cX7_drift 125 (.getfield 13) 3 128 := ⟨by decide +kernel, rfl⟩
theorem dX7_drift_128 : zD cX7_drift 128 (.bipush 29) 2 130 := ⟨by decide +kernel, rfl⟩
theorem dX7_drift_130 : zD cX7_drift 130 (.iaload) 1 131 := ⟨by decide +kernel, rfl⟩
theorem dX7_drift_131 : zD cX7_drift 131 (.ireturn) 1 132 := ⟨by decide +kernel, rfl⟩
theorem dX7_copies_0 : zD cX7_copies 0 (.iconst 0) 1 1 := ⟨by decide +kernel, rfl⟩
theorem dX7_copies_1 : zD cX7_copies 1 (.istore_n 3) 1 2 := ⟨by decide +kernel, rfl⟩
theorem dX7_copies_2 : zD cX7_copies 2 (.iload_n 3) 1 3 := ⟨by decide +kernel, rfl⟩
theorem dX7_copies_3 : zD cX7_copies 3 (.bipush 50) 2 5 := ⟨by decide +kernel, rfl⟩
theorem dX7_copies_5 : zJ cX7_copies 5 (fun o => .if_icmp .ge o) 30 8 := ⟨25, by decide +kernel, by decide, rfl⟩
theorem dX7_copies_8 : zD cX7_copies 8 (.aload_n 0) 1 9 := ⟨by decide +kernel, rfl⟩
theorem dX7_copies_9 : zD cX7_copies 9 (.getfield 7) 3 12 := ⟨by decide +kernel, rfl⟩
theorem dX7_copies_12 : zD cX7_copies 12 (.iload_n 1) 1 13 := ⟨by decide +kernel, rfl⟩
theorem dX7_copies_13 : zD cX7_copies 13 (.iload_n 3) 1 14 := ⟨by decide +kernel, rfl⟩
theorem dX7_copies_14 : zD cX7_copies 14 (.iadd) 1 15 := ⟨by decide +kernel, rfl⟩
theorem dX7_copies_15 : zD cX7_copies 15 (.aload_n 0) 1 16 := ⟨by decide +kernel, rfl⟩
theorem dX7_copies_16 : zD cX7_copies 16 (.getfield 7) 3 19 := ⟨by decide +kernel, rfl⟩
theorem dX7_copies_19 : zD cX7_copies 19 (.iload_n 2) 1 20 := ⟨by decide +kernel, rfl⟩
theorem dX7_copies_20 : zD cX7_copies 20 (.iload_n 3) 1 21 := ⟨by decide +kernel, rfl⟩
theorem dX7_copies_21 : zD cX7_copies 21 (.iadd) 1 22 := ⟨by decide +kernel, rfl⟩
theorem dX7_copies_22 : zD cX7_copies 22 (.iaload) 1 23 := ⟨by decide +kernel, rfl⟩
theorem dX7_copies_23 : zD cX7_copies 23 (.iastore) 1 24 := ⟨by decide +kernel, rfl⟩
theorem dX7_copies_24 : zD cX7_copies 24 (.iinc 3 1) 3 27 := ⟨by decide +kernel, rfl⟩
theorem dX7_copies_27 : zG cX7_copies 27 2 := ⟨(-25), by decide +kernel, by decide⟩
theorem dX7_copies_30 : zD cX7_copies 30 (.return_) 1 31 := ⟨by decide +kernel, rfl⟩
theorem dX7_keep_0 : zD cX7_keep 0 (.iload_n 1) 1 1 := ⟨by decide +kernel, rfl⟩
theorem dX7_keep_1 : zD cX7_keep 1 (.i2l) 1 2 := ⟨by decide +kernel, rfl⟩
theorem dX7_keep_2 : zD cX7_keep 2 (.lconst 0) 1 3 := ⟨by decide +kernel, rfl⟩
theorem dX7_keep_3 : zD cX7_keep 3 (.lconst 1) 1 4 := ⟨by decide +kernel, rfl⟩
theorem dX7_keep_4 : zD cX7_keep 4 (.invokestatic 63) 3 7 := ⟨by decide +kernel, rfl⟩
theorem dX7_keep_7 : zJ cX7_keep 7 (fun o => .ifCond .ne o) 12 10 := ⟨5, by decide +kernel, by decide, rfl⟩
theorem dX7_keep_10 : zD cX7_keep 10 (.iconst (-1)) 1 11 := ⟨by decide +kernel, rfl⟩
theorem dX7_keep_11 : zD cX7_keep 11 (.ireturn) 1 12 := ⟨by decide +kernel, rfl⟩
theorem dX7_keep_12 : zD cX7_keep 12 (.aload_n 0) 1 13 := ⟨by decide +kernel, rfl⟩
theorem dX7_keep_13 : zD cX7_keep 13 (.getfield 16) 3 16 := ⟨by decide +kernel, rfl⟩
theorem dX7_keep_16 : zD cX7_keep 16 (.iload_n 1) 1 17 := ⟨by decide +kernel, rfl⟩
theorem dX7_keep_17 : zD cX7_keep 17 (.baload) 1 18 := ⟨by decide +kernel, rfl⟩
theorem dX7_keep_18 : zD cX7_keep 18 (.invokestatic 176) 3 21 := ⟨by decide +kernel, rfl⟩
theorem dX7_keep_21 : zD cX7_keep 21 (.istore_n 2) 1 22 := ⟨by decide +kernel, rfl⟩
theorem dX7_keep_22 : zD cX7_keep 22 (.aload_n 0) 1 23 := ⟨by decide +kernel, rfl⟩
theorem dX7_keep_23 : zD cX7_keep 23 (.getfield 16) 3 26 := ⟨by decide +kernel, rfl⟩
theorem dX7_keep_26 : zD cX7_keep 26 (.iload_n 1) 1 27 := ⟨by decide +kernel, rfl⟩
theorem dX7_keep_27 : zD cX7_keep 27 (.iconst 1) 1 28 := ⟨by decide +kernel, rfl⟩
theorem dX7_keep_28 : zD cX7_keep 28 (.bastore) 1 29 := ⟨by decide +kernel, rfl⟩
theorem dX7_keep_29 : zD cX7_keep 29 (.aload_n 0) 1 30 := ⟨by decide +kernel, rfl⟩
theorem dX7_keep_30 : zD cX7_keep 30 (.bipush 50) 2 32 := ⟨by decide +kernel, rfl⟩
theorem dX7_keep_32 : zD cX7_keep 32 (.iload_n 1) 1 33 := ⟨by decide +kernel, rfl⟩
theorem dX7_keep_33 : zD cX7_keep 33 (.iconst 1) 1 34 := ⟨by decide +kernel, rfl⟩
theorem dX7_keep_34 : zD cX7_keep 34 (.iadd) 1 35 := ⟨by decide +kernel, rfl⟩
theorem dX7_keep_35 : zD cX7_keep 35 (.imul) 1 36 := ⟨by decide +kernel, rfl⟩
theorem dX7_keep_36 : zD cX7_keep 36 (.iconst 0) 1 37 := ⟨by decide +kernel, rfl⟩
theorem dX7_keep_37 : zD cX7_keep 37 (.invokevirtual 282) 3 40 := ⟨by decide +kernel, rfl⟩
theorem dX7_keep_40 : zD cX7_keep 40 (.iload_n 2) 1 41 := ⟨by decide +kernel, rfl⟩
theorem dX7_keep_41 : zD cX7_keep 41 (.ireturn) 1 42 := ⟨by decide +kernel, rfl⟩
theorem dX7_back_0 : zD cX7_back 0 (.iload_n 1) 1 1 := ⟨by decide +kernel, rfl⟩
theorem dX7_back_1 : zD cX7_back 1 (.i2l) 1 2 := ⟨by decide +kernel, rfl⟩
theorem dX7_back_2 : zD cX7_back 2 (.lconst 0) 1 3 := ⟨by decide +kernel, rfl⟩
theorem dX7_back_3 : zD cX7_back 3 (.lconst 1) 1 4 := ⟨by decide +kernel, rfl⟩
theorem dX7_back_4 : zD cX7_back 4 (.invokestatic 63) 3 7 := ⟨by decide +kernel, rfl⟩
theorem dX7_back_7 : zJ cX7_back 7 (fun o => .ifCond .ne o) 12 10 := ⟨5, by decide +kernel, by decide, rfl⟩
theorem dX7_back_10 : zD cX7_back 10 (.iconst (-1)) 1 11 := ⟨by decide +kernel, rfl⟩
theorem dX7_back_11 : zD cX7_back 11 (.ireturn) 1 12 := ⟨by decide +kernel, rfl⟩
theorem dX7_back_12 : zD cX7_back 12 (.aload_n 0) 1 13 := ⟨by decide +kernel, rfl⟩
theorem dX7_back_13 : zD cX7_back 13 (.getfield 16) 3 16 := ⟨by decide +kernel, rfl⟩
theorem dX7_back_16 : zD cX7_back 16 (.iload_n 1) 1 17 := ⟨by decide +kernel, rfl⟩
theorem dX7_back_17 : zD cX7_back 17 (.baload) 1 18 := ⟨by decide +kernel, rfl⟩
theorem dX7_back_18 : zJ cX7_back 18 (fun o => .ifCond .ne o) 24 21 := ⟨6, by decide +kernel, by decide, rfl⟩
theorem dX7_back_21 : zD cX7_back 21 (.bipush (-2)) 2 23 := ⟨by decide +kernel, rfl⟩
theorem dX7_back_23 : zD cX7_back 23 (.ireturn) 1 24 := ⟨by decide +kernel, rfl⟩
theorem dX7_back_24 : zD cX7_back 24 (.aload_n 0) 1 25 := ⟨by decide +kernel, rfl⟩
theorem dX7_back_25 : zD cX7_back 25 (.iconst 0) 1 26 := ⟨by decide +kernel, rfl⟩
theorem dX7_back_26 : zD cX7_back 26 (.bipush 50) 2 28 := ⟨by decide +kernel, rfl⟩
theorem dX7_back_28 : zD cX7_back 28 (.iload_n 1) 1 29 := ⟨by decide +kernel, rfl⟩
theorem dX7_back_29 : zD cX7_back 29 (.iconst 1) 1 30 := ⟨by decide +kernel, rfl⟩
theorem dX7_back_30 : zD cX7_back 30 (.iadd) 1 31 := ⟨by decide +kernel, rfl⟩
theorem dX7_back_31 : zD cX7_back 31 (.imul) 1 32 := ⟨by decide +kernel, rfl⟩
theorem dX7_back_32 : zD cX7_back 32 (.invokevirtual 282) 3 35 := ⟨by decide +kernel, rfl⟩
theorem dX7_back_35 : zD cX7_back 35 (.aload_n 0) 1 36 := ⟨by decide +kernel, rfl⟩
theorem dX7_back_36 : zD cX7_back 36 (.getfield 7) 3 39 := ⟨by decide +kernel, rfl⟩
theorem dX7_back_39 : zD cX7_back 39 (.bipush 30) 2 41 := ⟨by decide +kernel, rfl⟩
theorem dX7_back_41 : zD cX7_back 41 (.iaload) 1 42 := ⟨by decide +kernel, rfl⟩
theorem dX7_back_42 : zD cX7_back 42 (.ireturn) 1 43 := ⟨by decide +kernel, rfl⟩
theorem dX7_isSheet_0 : zD cX7_isSheet 0 (.iload_n 0) 1 1 := ⟨by decide +kernel, rfl⟩
theorem dX7_isSheet_1 : zD cX7_isSheet 1 (.i2l) 1 2 := ⟨by decide +kernel, rfl⟩
theorem dX7_isSheet_2 : zD cX7_isSheet 2 (.lconst 0) 1 3 := ⟨by decide +kernel, rfl⟩
theorem dX7_isSheet_3 : zD cX7_isSheet 3 (.ldc2_w 193) 3 6 := ⟨by decide +kernel, rfl⟩
theorem dX7_isSheet_6 : zD cX7_isSheet 6 (.invokestatic 63) 3 9 := ⟨by decide +kernel, rfl⟩
theorem dX7_isSheet_9 : zJ cX7_isSheet 9 (fun o => .ifCond .eq o) 28 12 := ⟨19, by decide +kernel, by decide, rfl⟩
theorem dX7_isSheet_12 : zD cX7_isSheet 12 (.iload_n 1) 1 13 := ⟨by decide +kernel, rfl⟩
theorem dX7_isSheet_13 : zD cX7_isSheet 13 (.i2l) 1 14 := ⟨by decide +kernel, rfl⟩
theorem dX7_isSheet_14 : zD cX7_isSheet 14 (.lconst 0) 1 15 := ⟨by decide +kernel, rfl⟩
theorem dX7_isSheet_15 : zD cX7_isSheet 15 (.ldc2_w 285) 3 18 := ⟨by decide +kernel, rfl⟩
theorem dX7_isSheet_18 : zD cX7_isSheet 18 (.invokestatic 63) 3 21 := ⟨by decide +kernel, rfl⟩
theorem dX7_isSheet_21 : zJ cX7_isSheet 21 (fun o => .ifCond .eq o) 28 24 := ⟨7, by decide +kernel, by decide, rfl⟩
theorem dX7_isSheet_24 : zD cX7_isSheet 24 (.iconst 1) 1 25 := ⟨by decide +kernel, rfl⟩
theorem dX7_isSheet_25 : zG cX7_isSheet 25 29 := ⟨4, by decide +kernel, by decide⟩
theorem dX7_isSheet_28 : zD cX7_isSheet 28 (.iconst 0) 1 29 := ⟨by decide +kernel, rfl⟩
theorem dX7_isSheet_29 : zD cX7_isSheet 29 (.ireturn) 1 30 := ⟨by decide +kernel, rfl⟩
theorem dX7_sheet_0 : zD cX7_sheet 0 (.iload_n 1) 1 1 := ⟨by decide +kernel, rfl⟩
theorem dX7_sheet_1 : zD cX7_sheet 1 (.iload_n 2) 1 2 := ⟨by decide +kernel, rfl⟩
theorem dX7_sheet_2 : zD cX7_sheet 2 (.invokestatic 287) 3 5 := ⟨by decide +kernel, rfl⟩
theorem dX7_sheet_5 : zJ cX7_sheet 5 (fun o => .ifCond .eq o) 14 8 := ⟨9, by decide +kernel, by decide, rfl⟩
theorem dX7_sheet_8 : zD cX7_sheet 8 (.iload_n 3) 1 9 := ⟨by decide +kernel, rfl⟩
theorem dX7_sheet_9 : zD cX7_sheet 9 (.bipush 40) 2 11 := ⟨by decide +kernel, rfl⟩
theorem dX7_sheet_11 : zJ cX7_sheet 11 (fun o => .if_icmp .le o) 16 14 := ⟨5, by decide +kernel, by decide, rfl⟩
theorem dX7_sheet_14 : zD cX7_sheet 14 (.iconst (-1)) 1 15 := ⟨by decide +kernel, rfl⟩
theorem dX7_sheet_15 : zD cX7_sheet 15 (.ireturn) 1 16 := ⟨by decide +kernel, rfl⟩
theorem dX7_sheet_16 : zD cX7_sheet 16 (.iload_n 3) 1 17 := ⟨by decide +kernel, rfl⟩
theorem dX7_sheet_17 : zJ cX7_sheet 17 (fun o => .ifCond .ge o) 23 20 := ⟨6, by decide +kernel, by decide, rfl⟩
theorem dX7_sheet_20 : zD cX7_sheet 20 (.bipush (-14)) 2 22 := ⟨by decide +kernel, rfl⟩
theorem dX7_sheet_22 : zD cX7_sheet 22 (.ireturn) 1 23 := ⟨by decide +kernel, rfl⟩
theorem dX7_sheet_23 : zD cX7_sheet 23 (.aload_n 0) 1 24 := ⟨by decide +kernel, rfl⟩
theorem dX7_sheet_24 : zD cX7_sheet 24 (.getfield 35) 3 27 := ⟨by decide +kernel, rfl⟩
theorem dX7_sheet_27 : zD cX7_sheet 27 (.iload_n 1) 1 28 := ⟨by decide +kernel, rfl⟩
theorem dX7_sheet_28 : zD cX7_sheet 28 (.iload_n 2) 1 29 := ⟨by decide +kernel, rfl⟩
theorem dX7_sheet_29 : zD cX7_sheet 29 (.iastore) 1 30 := ⟨by decide +kernel, rfl⟩
theorem dX7_sheet_30 : zD cX7_sheet 30 (.aload_n 0) 1 31 := ⟨by decide +kernel, rfl⟩
theorem dX7_sheet_31 : zD cX7_sheet 31 (.getfield 38) 3 34 := ⟨by decide +kernel, rfl⟩
theorem dX7_sheet_34 : zD cX7_sheet 34 (.iload_n 1) 1 35 := ⟨by decide +kernel, rfl⟩
theorem dX7_sheet_35 : zD cX7_sheet 35 (.iload_n 3) 1 36 := ⟨by decide +kernel, rfl⟩
theorem dX7_sheet_36 : zD cX7_sheet 36 (.iastore) 1 37 := ⟨by decide +kernel, rfl⟩
theorem dX7_sheet_37 : zD cX7_sheet 37 (.iconst 0) 1 38 := ⟨by decide +kernel, rfl⟩
theorem dX7_sheet_38 : zD cX7_sheet 38 (.istore 4) 2 40 := ⟨by decide +kernel, rfl⟩
theorem dX7_sheet_40 : zD cX7_sheet 40 (.iload 4) 2 42 := ⟨by decide +kernel, rfl⟩
theorem dX7_sheet_42 : zD cX7_sheet 42 (.bipush 40) 2 44 := ⟨by decide +kernel, rfl⟩
theorem dX7_sheet_44 : zJ cX7_sheet 44 (fun o => .if_icmp .ge o) 66 47 := ⟨22, by decide +kernel, by decide, rfl⟩
theorem dX7_sheet_47 : zD cX7_sheet 47 (.aload_n 0) 1 48 := ⟨by decide +kernel, rfl⟩
theorem dX7_sheet_48 : zD cX7_sheet 48 (.getfield 41) 3 51 := ⟨by decide +kernel, rfl⟩
theorem dX7_sheet_51 : zD cX7_sheet 51 (.bipush 40) 2 53 := ⟨by decide +kernel, rfl⟩
theorem dX7_sheet_53 : zD cX7_sheet 53 (.iload_n 1) 1 54 := ⟨by decide +kernel, rfl⟩
theorem dX7_sheet_54 : zD cX7_sheet 54 (.imul) 1 55 := ⟨by decide +kernel, rfl⟩
theorem dX7_sheet_55 : zD cX7_sheet 55 (.iload 4) 2 57 := ⟨by decide +kernel, rfl⟩
theorem dX7_sheet_57 : zD cX7_sheet 57 (.iadd) 1 58 := ⟨by decide +kernel, rfl⟩
theorem dX7_sheet_58 : zD cX7_sheet 58 (.iconst 0) 1 59 := ⟨by decide +kernel, rfl⟩
theorem dX7_sheet_59 : zD cX7_sheet 59 (.iastore) 1 60 := ⟨by decide +kernel, rfl⟩
theorem dX7_sheet_60 : zD cX7_sheet 60 (.iinc 4 1) 3 63 := ⟨by decide +kernel, rfl⟩
theorem dX7_sheet_63 : zG cX7_sheet 63 40 := ⟨(-23), by decide +kernel, by decide⟩
theorem dX7_sheet_66 : zD cX7_sheet 66 (.iconst 1) 1 67 := ⟨by decide +kernel, rfl⟩
theorem dX7_sheet_67 : zD cX7_sheet 67 (.ireturn) 1 68 := ⟨by decide +kernel, rfl⟩
theorem dX7_lay_0 : zD cX7_lay 0 (.iload_n 1) 1 1 := ⟨by decide +kernel, rfl⟩
theorem dX7_lay_1 : zD cX7_lay 1 (.iconst 0) 1 2 := ⟨by decide +kernel, rfl⟩
theorem dX7_lay_2 : zD cX7_lay 2 (.invokestatic 287) 3 5 := ⟨by decide +kernel, rfl⟩
theorem dX7_lay_5 : zJ cX7_lay 5 (fun o => .ifCond .ne o) 10 8 := ⟨5, by decide +kernel, by decide, rfl⟩
theorem dX7_lay_8 : zD cX7_lay 8 (.iconst (-1)) 1 9 := ⟨by decide +kernel, rfl⟩
theorem dX7_lay_9 : zD cX7_lay 9 (.ireturn) 1 10 := ⟨by decide +kernel, rfl⟩
theorem dX7_lay_10 : zD cX7_lay 10 (.aload_n 0) 1 11 := ⟨by decide +kernel, rfl⟩
theorem dX7_lay_11 : zD cX7_lay 11 (.getfield 35) 3 14 := ⟨by decide +kernel, rfl⟩
theorem dX7_lay_14 : zD cX7_lay 14 (.iload_n 1) 1 15 := ⟨by decide +kernel, rfl⟩
theorem dX7_lay_15 : zD cX7_lay 15 (.iaload) 1 16 := ⟨by decide +kernel, rfl⟩
theorem dX7_lay_16 : zD cX7_lay 16 (.bipush (-4)) 2 18 := ⟨by decide +kernel, rfl⟩
theorem dX7_lay_18 : zJ cX7_lay 18 (fun o => .if_icmp .ne o) 24 21 := ⟨6, by decide +kernel, by decide, rfl⟩
theorem dX7_lay_21 : zD cX7_lay 21 (.bipush (-11)) 2 23 := ⟨by decide +kernel, rfl⟩
theorem dX7_lay_23 : zD cX7_lay 23 (.ireturn) 1 24 := ⟨by decide +kernel, rfl⟩
theorem dX7_lay_24 : zD cX7_lay 24 (.iload_n 2) 1 25 := ⟨by decide +kernel, rfl⟩
theorem dX7_lay_25 : zD cX7_lay 25 (.i2l) 1 26 := ⟨by decide +kernel, rfl⟩
theorem dX7_lay_26 : zD cX7_lay 26 (.lconst 0) 1 27 := ⟨by decide +kernel, rfl⟩
theorem dX7_lay_27 : zD cX7_lay 27 (.aload_n 0) 1 28 := ⟨by decide +kernel, rfl⟩
theorem dX7_lay_28 : zD cX7_lay 28 (.getfield 38) 3 31 := ⟨by decide +kernel, rfl⟩
theorem dX7_lay_31 : zD cX7_lay 31 (.iload_n 1) 1 32 := ⟨by decide +kernel, rfl⟩
theorem dX7_lay_32 : zD cX7_lay 32 (.iaload) 1 33 := ⟨by decide +kernel, rfl⟩
theorem dX7_lay_33 : zD cX7_lay 33 (.iconst 1) 1 34 := ⟨by decide +kernel, rfl⟩
theorem dX7_lay_34 : zD cX7_lay 34 (.isub) 1 35 := ⟨by decide +kernel, rfl⟩
theorem dX7_lay_35 : zD cX7_lay 35 (.i2l) 1 36 := ⟨by decide +kernel, rfl⟩
theorem dX7_lay_36 : zD cX7_lay 36 (.invokestatic 63) 3 39 := ⟨by decide +kernel, rfl⟩
theorem dX7_lay_39 : zJ cX7_lay 39 (fun o => .ifCond .ne o) 45 42 := ⟨6, by decide +kernel, by decide, rfl⟩
theorem dX7_lay_42 : zD cX7_lay 42 (.bipush (-12)) 2 44 := ⟨by decide +kernel, rfl⟩
theorem dX7_lay_44 : zD cX7_lay 44 (.ireturn) 1 45 := ⟨by decide +kernel, rfl⟩
theorem dX7_lay_45 : zD cX7_lay 45 (.aload_n 0) 1 46 := ⟨by decide +kernel, rfl⟩
theorem dX7_lay_46 : zD cX7_lay 46 (.getfield 41) 3 49 := ⟨by decide +kernel, rfl⟩
theorem dX7_lay_49 : zD cX7_lay 49 (.bipush 40) 2 51 := ⟨by decide +kernel, rfl⟩
theorem dX7_lay_51 : zD cX7_lay 51 (.iload_n 1) 1 52 := ⟨by decide +kernel, rfl⟩
theorem dX7_lay_52 : zD cX7_lay 52 (.imul) 1 53 := ⟨by decide +kernel, rfl⟩
theorem dX7_lay_53 : zD cX7_lay 53 (.iload_n 2) 1 54 := ⟨by decide +kernel, rfl⟩
theorem dX7_lay_54 : zD cX7_lay 54 (.iadd) 1 55 := ⟨by decide +kernel, rfl⟩
theorem dX7_lay_55 : zD cX7_lay 55 (.aload_n 0) 1 56 := ⟨by decide +kernel, rfl⟩
theorem dX7_lay_56 : zD cX7_lay 56 (.getfield 35) 3 59 := ⟨by decide +kernel, rfl⟩
theorem dX7_lay_59 : zD cX7_lay 59 (.iload_n 1) 1 60 := ⟨by decide +kernel, rfl⟩
theorem dX7_lay_60 : zD cX7_lay 60 (.iaload) 1 61 := ⟨by decide +kernel, rfl⟩
theorem dX7_lay_61 : zJ cX7_lay 61 (fun o => .ifCond .ne o) 69 64 := ⟨8, by decide +kernel, by decide, rfl⟩
theorem dX7_lay_64 : zD cX7_lay 64 (.iload_n 3) 1 65 := ⟨by decide +kernel, rfl⟩
theorem dX7_lay_65 : zD cX7_lay 65 (.i2b) 1 66 := ⟨by decide +kernel, rfl⟩
theorem dX7_lay_66 : zG cX7_lay 66 85 := ⟨19, by decide +kernel, by decide⟩
theorem dX7_lay_69 : zD cX7_lay 69 (.aload_n 0) 1 70 := ⟨by decide +kernel, rfl⟩
theorem dX7_lay_70 : zD cX7_lay 70 (.getfield 35) 3 73 := ⟨by decide +kernel, rfl⟩
theorem dX7_lay_73 : zD cX7_lay 73 (.iload_n 1) 1 74 := ⟨by decide +kernel, rfl⟩
theorem dX7_lay_74 : zD cX7_lay 74 (.iaload) 1 75 := ⟨by decide +kernel, rfl⟩
theorem dX7_lay_75 : zD cX7_lay 75 (.iconst 1) 1 76 := ⟨by decide +kernel, rfl⟩
theorem dX7_lay_76 : zJ cX7_lay 76 (fun o => .if_icmp .ne o) 84 79 := ⟨8, by decide +kernel, by decide, rfl⟩
theorem dX7_lay_79 : zD cX7_lay 79 (.iload_n 3) 1 80 := ⟨by decide +kernel, rfl⟩
theorem dX7_lay_80 : zD cX7_lay 80 (.i2s) 1 81 := ⟨by decide +kernel, rfl⟩
theorem dX7_lay_81 : zG cX7_lay 81 85 := ⟨4, by decide +kernel, by decide⟩
theorem dX7_lay_84 : zD cX7_lay 84 (.iload_n 3) 1 85 := ⟨by decide +kernel, rfl⟩
theorem dX7_lay_85 : zD cX7_lay 85 (.iastore) 1 86 := ⟨by decide +kernel, rfl⟩
theorem dX7_lay_86 : zD cX7_lay 86 (.iconst 1) 1 87 := ⟨by decide +kernel, rfl⟩
theorem dX7_lay_87 : zD cX7_lay 87 (.ireturn) 1 88 := ⟨by decide +kernel, rfl⟩
theorem dX7_read_0 : zD cX7_read 0 (.iload_n 1) 1 1 := ⟨by decide +kernel, rfl⟩
theorem dX7_read_1 : zD cX7_read 1 (.iload_n 2) 1 2 := ⟨by decide +kernel, rfl⟩
theorem dX7_read_2 : zD cX7_read 2 (.invokestatic 287) 3 5 := ⟨by decide +kernel, rfl⟩
theorem dX7_read_5 : zJ cX7_read 5 (fun o => .ifCond .eq o) 21 8 := ⟨16, by decide +kernel, by decide, rfl⟩
theorem dX7_read_8 : zD cX7_read 8 (.iload 4) 2 10 := ⟨by decide +kernel, rfl⟩
theorem dX7_read_10 : zD cX7_read 10 (.i2l) 1 11 := ⟨by decide +kernel, rfl⟩
theorem dX7_read_11 : zD cX7_read 11 (.lconst 0) 1 12 := ⟨by decide +kernel, rfl⟩
theorem dX7_read_12 : zD cX7_read 12 (.ldc2_w 273) 3 15 := ⟨by decide +kernel, rfl⟩
theorem dX7_read_15 : zD cX7_read 15 (.invokestatic 63) 3 18 := ⟨by decide +kernel, rfl⟩
theorem dX7_read_18 : zJ cX7_read 18 (fun o => .ifCond .ne o) 23 21 := ⟨5, by decide +kernel, by decide, rfl⟩
theorem dX7_read_21 : zD cX7_read 21 (.iconst (-1)) 1 22 := ⟨by decide +kernel, rfl⟩
theorem dX7_read_22 : zD cX7_read 22 (.ireturn) 1 23 := ⟨by decide +kernel, rfl⟩
theorem dX7_read_23 : zD cX7_read 23 (.iconst 0) 1 24 := ⟨by decide +kernel, rfl⟩
theorem dX7_read_24 : zD cX7_read 24 (.istore 5) 2 26 := ⟨by decide +kernel, rfl⟩
theorem dX7_read_26 : zD cX7_read 26 (.iload 5) 2 28 := ⟨by decide +kernel, rfl⟩
theorem dX7_read_28 : zD cX7_read 28 (.bipush 50) 2 30 := ⟨by decide +kernel, rfl⟩
theorem dX7_read_30 : zJ cX7_read 30 (fun o => .if_icmp .ge o) 53 33 := ⟨23, by decide +kernel, by decide, rfl⟩
theorem dX7_read_33 : zD cX7_read 33 (.aload_n 0) 1 34 := ⟨by decide +kernel, rfl⟩
theorem dX7_read_34 : zD cX7_read 34 (.getfield 44) 3 37 := ⟨by decide +kernel, rfl⟩
theorem dX7_read_37 : zD cX7_read 37 (.iload 5) 2 39 := ⟨by decide +kernel, rfl⟩
theorem dX7_read_39 : zD cX7_read 39 (.aload_n 0) 1 40 := ⟨by decide +kernel, rfl⟩
theorem dX7_read_40 : zD cX7_read 40 (.getfield 7) 3 43 := ⟨by decide +kernel, rfl⟩
theorem dX7_read_43 : zD cX7_read 43 (.iload 5) 2 45 := ⟨by decide +kernel, rfl⟩
theorem dX7_read_45 : zD cX7_read 45 (.iaload) 1 46 := ⟨by decide +kernel, rfl⟩
theorem dX7_read_46 : zD cX7_read 46 (.iastore) 1 47 := ⟨by decide +kernel, rfl⟩
theorem dX7_read_47 : zD cX7_read 47 (.iinc 5 1) 3 50 := ⟨by decide +kernel, rfl⟩
theorem dX7_read_50 : zG cX7_read 50 26 := ⟨(-24), by decide +kernel, by decide⟩
theorem dX7_read_53 : zD cX7_read 53 (.iconst 0) 1 54 := ⟨by decide +kernel, rfl⟩
theorem dX7_read_54 : zD cX7_read 54 (.istore 5) 2 56 := ⟨by decide +kernel, rfl⟩
theorem dX7_read_56 : zD cX7_read 56 (.iconst 0) 1 57 := ⟨by decide +kernel, rfl⟩
theorem dX7_read_57 : zD cX7_read 57 (.istore 6) 2 59 := ⟨by decide +kernel, rfl⟩
theorem dX7_read_59 : zD cX7_read 59 (.iconst 0) 1 60 := ⟨by decide +kernel, rfl⟩
theorem dX7_read_60 : zD cX7_read 60 (.istore 7) 2 62 := ⟨by decide +kernel, rfl⟩
theorem dX7_read_62 : zD cX7_read 62 (.iload 7) 2 64 := ⟨by decide +kernel, rfl⟩
theorem dX7_read_64 : zD cX7_read 64 (.iload 4) 2 66 := ⟨by decide +kernel, rfl⟩
theorem dX7_read_66 : zJ cX7_read 66 (fun o => .if_icmp .ge o) 250 69 := ⟨184, by decide +kernel, by decide, rfl⟩
theorem dX7_read_69 : zD cX7_read 69 (.iload 5) 2 71 := ⟨by decide +kernel, rfl⟩
theorem dX7_read_71 : zJ cX7_read 71 (fun o => .ifCond .ne o) 250 74 := ⟨179, by decide +kernel, by decide, rfl⟩
theorem dX7_read_74 : zD cX7_read 74 (.iconst 0) 1 75 := ⟨by decide +kernel, rfl⟩
theorem dX7_read_75 : zD cX7_read 75 (.istore 8) 2 77 := ⟨by decide +kernel, rfl⟩
theorem dX7_read_77 : zD cX7_read 77 (.iload 8) 2 79 := ⟨by decide +kernel, rfl⟩
theorem dX7_read_79 : zD cX7_read 79 (.iconst 2) 1 80 := ⟨by decide +kernel, rfl⟩
theorem dX7_read_80 : zJ cX7_read 80 (fun o => .if_icmp .ge o) 164 83 := ⟨84, by decide +kernel, by decide, rfl⟩
theorem dX7_read_83 : zD cX7_read 83 (.iload 5) 2 85 := ⟨by decide +kernel, rfl⟩
theorem dX7_read_85 : zJ cX7_read 85 (fun o => .ifCond .ne o) 164 88 := ⟨79, by decide +kernel, by decide, rfl⟩
theorem dX7_read_88 : zD cX7_read 88 (.iload_n 3) 1 89 := ⟨by decide +kernel, rfl⟩
theorem dX7_read_89 : zD cX7_read 89 (.i2l) 1 90 := ⟨by decide +kernel, rfl⟩
theorem dX7_read_90 : zD cX7_read 90 (.iconst 2) 1 91 := ⟨by decide +kernel, rfl⟩
theorem dX7_read_91 : zD cX7_read 91 (.iload 7) 2 93 := ⟨by decide +kernel, rfl⟩
theorem dX7_read_93 : zD cX7_read 93 (.imul) 1 94 := ⟨by decide +kernel, rfl⟩
theorem dX7_read_94 : zD cX7_read 94 (.i2l) 1 95 := ⟨by decide +kernel, rfl⟩
theorem dX7_read_95 : zD cX7_read 95 (.ladd) 1 96 := ⟨by decide +kernel, rfl⟩
theorem dX7_read_96 : zD cX7_read 96 (.iload 8) 2 98 := ⟨by decide +kernel, rfl⟩
theorem dX7_read_98 : zD cX7_read 98 (.i2l) 1 99 := ⟨by decide +kernel, rfl⟩
theorem dX7_read_99 : zD cX7_read 99 (.ladd) 1 100 := ⟨by decide +kernel, rfl⟩
theorem dX7_read_100 : zD cX7_read 100 (.lstore 9) 2 102 := ⟨by decide +kernel, rfl⟩
theorem dX7_read_102 : zD cX7_read 102 (.aload_n 0) 1 103 := ⟨by decide +kernel, rfl⟩
theorem dX7_read_103 : zD cX7_read 103 (.getfield 35) 3 106 := ⟨by decide +kernel, rfl⟩
theorem dX7_read_106 : zD cX7_read 106 (.iload_n 1) 1 107 := ⟨by decide +kernel, rfl⟩
theorem dX7_read_107 : zD cX7_read 107 (.iaload) 1 108 := ⟨by decide +kernel, rfl⟩
theorem dX7_read_108 : zD cX7_read 108 (.bipush (-4)) 2 110 := ⟨by decide +kernel, rfl⟩
theorem dX7_read_110 : zJ cX7_read 110 (fun o => .if_icmp .ne o) 117 113 := ⟨7, by decide +kernel, by decide, rfl⟩
theorem dX7_read_113 : zD cX7_read 113 (.iconst 1) 1 114 := ⟨by decide +kernel, rfl⟩
theorem dX7_read_114 : zG cX7_read 114 156 := ⟨42, by decide +kernel, by decide⟩
theorem dX7_read_117 : zD cX7_read 117 (.aload_n 0) 1 118 := ⟨by decide +kernel, rfl⟩
theorem dX7_read_118 : zD cX7_read 118 (.getfield 35) 3 121 := ⟨by decide +kernel, rfl⟩
theorem dX7_read_121 : zD cX7_read 121 (.iload_n 1) 1 122 := ⟨by decide +kernel, rfl⟩
theorem dX7_read_122 : zD cX7_read 122 (.iaload) 1 123 := ⟨by decide +kernel, rfl⟩
theorem dX7_read_123 : zD cX7_read 123 (.iload_n 2) 1 124 := ⟨by decide +kernel, rfl⟩
theorem dX7_read_124 : zJ cX7_read 124 (fun o => .if_icmp .eq o) 131 127 := ⟨7, by decide +kernel, by decide, rfl⟩
theorem dX7_read_127 : zD cX7_read 127 (.iconst 3) 1 128 := ⟨by decide +kernel, rfl⟩
theorem dX7_read_128 : zG cX7_read 128 156 := ⟨28, by decide +kernel, by decide⟩
theorem dX7_read_131 : zD cX7_read 131 (.lload 9) 2 133 := ⟨by decide +kernel, rfl⟩
theorem dX7_read_133 : zD cX7_read 133 (.lconst 0) 1 134 := ⟨by decide +kernel, rfl⟩
theorem dX7_read_134 : zD cX7_read 134 (.lcmp) 1 135 := ⟨by decide +kernel, rfl⟩
theorem dX7_read_135 : zJ cX7_read 135 (fun o => .ifCond .lt o) 151 138 := ⟨16, by decide +kernel, by decide, rfl⟩
theorem dX7_read_138 : zD cX7_read 138 (.lload 9) 2 140 := ⟨by decide +kernel, rfl⟩
theorem dX7_read_140 : zD cX7_read 140 (.aload_n 0) 1 141 := ⟨by decide +kernel, rfl⟩
theorem dX7_read_141 : zD cX7_read 141 (.getfield 38) 3 144 := ⟨by decide +kernel, rfl⟩
theorem dX7_read_144 : zD cX7_read 144 (.iload_n 1) 1 145 := ⟨by decide +kernel, rfl⟩
theorem dX7_read_145 : zD cX7_read 145 (.iaload) 1 146 := ⟨by decide +kernel, rfl⟩
theorem dX7_read_146 : zD cX7_read 146 (.i2l) 1 147 := ⟨by decide +kernel, rfl⟩
theorem dX7_read_147 : zD cX7_read 147 (.lcmp) 1 148 := ⟨by decide +kernel, rfl⟩
theorem dX7_read_148 : zJ cX7_read 148 (fun o => .ifCond .lt o) 155 151 := ⟨7, by decide +kernel, by decide, rfl⟩
theorem dX7_read_151 : zD cX7_read 151 (.iconst 2) 1 152 := ⟨by decide +kernel, rfl⟩
theorem dX7_read_152 : zG cX7_read 152 156 := ⟨4, by decide +kernel, by decide⟩
theorem dX7_read_155 : zD cX7_read 155 (.iconst 0) 1 156 := ⟨by decide +kernel, rfl⟩
theorem dX7_read_156 : zD cX7_read 156 (.istore 5) 2 158 := ⟨by decide +kernel, rfl⟩
theorem dX7_read_158 : zD cX7_read 158 (.iinc 8 1) 3 161 := ⟨by decide +kernel, rfl⟩
theorem dX7_read_161 : zG cX7_read 161 77 := ⟨(-84), by decide +kernel, by decide⟩
theorem dX7_read_164 : zD cX7_read 164 (.iload 5) 2 166 := ⟨by decide +kernel, rfl⟩
theorem dX7_read_166 : zJ cX7_read 166 (fun o => .ifCond .ne o) 244 169 := ⟨78, by decide +kernel, by decide, rfl⟩
theorem dX7_read_169 : zD cX7_read 169 (.bipush 40) 2 171 := ⟨by decide +kernel, rfl⟩
theorem dX7_read_171 : zD cX7_read 171 (.iload_n 1) 1 172 := ⟨by decide +kernel, rfl⟩
theorem dX7_read_172 : zD cX7_read 172 (.imul) 1 173 := ⟨by decide +kernel, rfl⟩
theorem dX7_read_173 : zD cX7_read 173 (.iload_n 3) 1 174 := ⟨by decide +kernel, rfl⟩
theorem dX7_read_174 : zD cX7_read 174 (.iadd) 1 175 := ⟨by decide +kernel, rfl⟩
theorem dX7_read_175 : zD cX7_read 175 (.iconst 2) 1 176 := ⟨by decide +kernel, rfl⟩
theorem dX7_read_176 : zD cX7_read 176 (.iload 7) 2 178 := ⟨by decide +kernel, rfl⟩
theorem dX7_read_178 : zD cX7_read 178 (.imul) 1 179 := ⟨by decide +kernel, rfl⟩
theorem dX7_read_179 : zD cX7_read 179 (.iadd) 1 180 := ⟨by decide +kernel, rfl⟩
theorem dX7_read_180 : zD cX7_read 180 (.istore 8) 2 182 := ⟨by decide +kernel, rfl⟩
theorem dX7_read_182 : zD cX7_read 182 (.aload_n 0) 1 183 := ⟨by decide +kernel, rfl⟩
theorem dX7_read_183 : zD cX7_read 183 (.aload_n 0) 1 184 := ⟨by decide +kernel, rfl⟩
theorem dX7_read_184 : zD cX7_read 184 (.getfield 41) 3 187 := ⟨by decide +kernel, rfl⟩
theorem dX7_read_187 : zD cX7_read 187 (.iload 8) 2 189 := ⟨by decide +kernel, rfl⟩
theorem dX7_read_189 : zD cX7_read 189 (.iaload) 1 190 := ⟨by decide +kernel, rfl⟩
theorem dX7_read_190 : zD cX7_read 190 (.aload_n 0) 1 191 := ⟨by decide +kernel, rfl⟩
theorem dX7_read_191 : zD cX7_read 191 (.getfield 41) 3 194 := ⟨by decide +kernel, rfl⟩
theorem dX7_read_194 : zD cX7_read 194 (.iload 8) 2 196 := ⟨by decide +kernel, rfl⟩
theorem dX7_read_196 : zD cX7_read 196 (.iconst 1) 1 197 := ⟨by decide +kernel, rfl⟩
theorem dX7_read_197 : zD cX7_read 197 (.iadd) 1 198 := ⟨by decide +kernel, rfl⟩
theorem dX7_read_198 : zD cX7_read 198 (.iaload) 1 199 := ⟨by decide +kernel, rfl⟩
theorem dX7_read_199 : zD cX7_read 199 (.invokevirtual 290) 3 202 := ⟨by decide +kernel, rfl⟩
theorem dX7_read_202 : zJ cX7_read 202 (fun o => .ifCond .ge o) 241 205 := ⟨39, by decide +kernel, by decide, rfl⟩
theorem dX7_read_205 : zD cX7_read 205 (.iconst 0) 1 206 := ⟨by decide +kernel, rfl⟩
theorem dX7_read_206 : zD cX7_read 206 (.istore 9) 2 208 := ⟨by decide +kernel, rfl⟩
theorem dX7_read_208 : zD cX7_read 208 (.iload 9) 2 210 := ⟨by decide +kernel, rfl⟩
theorem dX7_read_210 : zD cX7_read 210 (.bipush 50) 2 212 := ⟨by decide +kernel, rfl⟩
theorem dX7_read_212 : zJ cX7_read 212 (fun o => .if_icmp .ge o) 235 215 := ⟨23, by decide +kernel, by decide, rfl⟩
theorem dX7_read_215 : zD cX7_read 215 (.aload_n 0) 1 216 := ⟨by decide +kernel, rfl⟩
theorem dX7_read_216 : zD cX7_read 216 (.getfield 7) 3 219 := ⟨by decide +kernel, rfl⟩
theorem dX7_read_219 : zD cX7_read 219 (.iload 9) 2 221 := ⟨by decide +kernel, rfl⟩
theorem dX7_read_221 : zD cX7_read 221 (.aload_n 0) 1 222 := ⟨by decide +kernel, rfl⟩
theorem dX7_read_222 : zD cX7_read 222 (.getfield 44) 3 225 := ⟨by decide +kernel, rfl⟩
theorem dX7_read_225 : zD cX7_read 225 (.iload 9) 2 227 := ⟨by decide +kernel, rfl⟩
theorem dX7_read_227 : zD cX7_read 227 (.iaload) 1 228 := ⟨by decide +kernel, rfl⟩
theorem dX7_read_228 : zD cX7_read 228 (.iastore) 1 229 := ⟨by decide +kernel, rfl⟩
theorem dX7_read_229 : zD cX7_read 229 (.iinc 9 1) 3 232 := ⟨by decide +kernel, rfl⟩
theorem dX7_read_232 : zG cX7_read 232 208 := ⟨(-24), by decide +kernel, by decide⟩
theorem dX7_read_235 : zD cX7_read 235 (.bipush (-20)) 2 237 := ⟨by decide +kernel, rfl⟩
theorem dX7_read_237 : zD cX7_read 237 (.iload 7) 2 239 := ⟨by decide +kernel, rfl⟩
theorem dX7_read_239 : zD cX7_read 239 (.isub) 1 240 := ⟨by decide +kernel, rfl⟩
theorem dX7_read_240 : zD cX7_read 240 (.ireturn) 1 241 := ⟨by decide +kernel, rfl⟩
theorem dX7_read_241 : zD cX7_read 241 (.iinc 6 1) 3 244 := ⟨by decide +kernel, rfl⟩
theorem dX7_read_244 : zD cX7_read 244 (.iinc 7 1) 3 247 := ⟨by decide +kernel, rfl⟩
theorem dX7_read_247 : zG cX7_read 247 62 := ⟨(-185), by decide +kernel, by decide⟩
theorem dX7_read_250 : zD cX7_read 250 (.aload_n 0) 1 251 := ⟨by decide +kernel, rfl⟩
theorem dX7_read_251 : zD cX7_read 251 (.iload 5) 2 253 := ⟨by decide +kernel, rfl⟩
theorem dX7_read_253 : zD cX7_read 253 (.putfield 293) 3 256 := ⟨by decide +kernel, rfl⟩
theorem dX7_read_256 : zD cX7_read 256 (.iload 6) 2 258 := ⟨by decide +kernel, rfl⟩
theorem dX7_read_258 : zD cX7_read 258 (.ireturn) 1 259 := ⟨by decide +kernel, rfl⟩
theorem dX7_torn_0 : zD cX7_torn 0 (.aload_n 0) 1 1 := ⟨by decide +kernel, rfl⟩
theorem dX7_torn_1 : zD cX7_torn 1 (.getfield 293) 3 4 := ⟨by decide +kernel, rfl⟩
theorem dX7_torn_4 : zD cX7_torn 4 (.ireturn) 1 5 := ⟨by decide +kernel, rfl⟩
theorem dX7_count_0 : zD cX7_count 0 (.iconst 0) 1 1 := ⟨by decide +kernel, rfl⟩
theorem dX7_count_1 : zD cX7_count 1 (.istore_n 2) 1 2 := ⟨by decide +kernel, rfl⟩
theorem dX7_count_2 : zD cX7_count 2 (.aload_n 0) 1 3 := ⟨by decide +kernel, rfl⟩
theorem dX7_count_3 : zD cX7_count 3 (.invokevirtual 180) 3 6 := ⟨by decide +kernel, rfl⟩
theorem dX7_count_6 : zD cX7_count 6 (.iconst 0) 1 7 := ⟨by decide +kernel, rfl⟩
theorem dX7_count_7 : zD cX7_count 7 (.istore_n 3) 1 8 := ⟨by decide +kernel, rfl⟩
theorem dX7_count_8 : zD cX7_count 8 (.iload_n 3) 1 9 := ⟨by decide +kernel, rfl⟩
theorem dX7_count_9 : zD cX7_count 9 (.aload_n 0) 1 10 := ⟨by decide +kernel, rfl⟩
theorem dX7_count_10 : zD cX7_count 10 (.getfield 7) 3 13 := ⟨by decide +kernel, rfl⟩
theorem dX7_count_13 : zD cX7_count 13 (.bipush 27) 2 15 := ⟨by decide +kernel, rfl⟩
theorem dX7_count_15 : zD cX7_count 15 (.iaload) 1 16 := ⟨by decide +kernel, rfl⟩
theorem dX7_count_16 : zJ cX7_count 16 (fun o => .if_icmp .ge o) 34 19 := ⟨18, by decide +kernel, by decide, rfl⟩
theorem dX7_count_19 : zD cX7_count 19 (.iload_n 2) 1 20 := ⟨by decide +kernel, rfl⟩
theorem dX7_count_20 : zD cX7_count 20 (.aload_n 0) 1 21 := ⟨by decide +kernel, rfl⟩
theorem dX7_count_21 : zD cX7_count 21 (.iload_n 3) 1 22 := ⟨by decide +kernel, rfl⟩
theorem dX7_count_22 : zD cX7_count 22 (.iconst 1) 1 23 := ⟨by decide +kernel, rfl⟩
theorem dX7_count_23 : zD cX7_count 23 (.invokevirtual 141) 3 26 := ⟨by decide +kernel, rfl⟩
theorem dX7_count_26 : zD cX7_count 26 (.iadd) 1 27 := ⟨by decide +kernel, rfl⟩
theorem dX7_count_27 : zD cX7_count 27 (.istore_n 2) 1 28 := ⟨by decide +kernel, rfl⟩
theorem dX7_count_28 : zD cX7_count 28 (.iinc 3 1) 3 31 := ⟨by decide +kernel, rfl⟩
theorem dX7_count_31 : zG cX7_count 31 8 := ⟨(-23), by decide +kernel, by decide⟩
theorem dX7_count_34 : zD cX7_count 34 (.iload_n 1) 1 35 := ⟨by decide +kernel, rfl⟩
theorem dX7_count_35 : zD cX7_count 35 (.tableswitch 101 0 5 #[37, 45, 65, 70, 93, 99]) 37 72 := ⟨by decide +kernel, rfl⟩
theorem dX7_count_72 : zD cX7_count 72 (.aload_n 0) 1 73 := ⟨by decide +kernel, rfl⟩
theorem dX7_count_73 : zD cX7_count 73 (.getfield 7) 3 76 := ⟨by decide +kernel, rfl⟩
theorem dX7_count_76 : zD cX7_count 76 (.bipush 31) 2 78 := ⟨by decide +kernel, rfl⟩
theorem dX7_count_78 : zD cX7_count 78 (.iaload) 1 79 := ⟨by decide +kernel, rfl⟩
theorem dX7_count_79 : zD cX7_count 79 (.ireturn) 1 80 := ⟨by decide +kernel, rfl⟩
theorem dX7_count_80 : zD cX7_count 80 (.aload_n 0) 1 81 := ⟨by decide +kernel, rfl⟩
theorem dX7_count_81 : zD cX7_count 81 (.getfield 16) 3 84 := ⟨by decide +kernel, rfl⟩
theorem dX7_count_84 : zD cX7_count 84 (.iconst 0) 1 85 := ⟨by decide +kernel, rfl⟩
theorem dX7_count_85 : zD cX7_count 85 (.baload) 1 86 := ⟨by decide +kernel, rfl⟩
theorem dX7_count_86 : zD cX7_count 86 (.invokestatic 176) 3 89 := ⟨by decide +kernel, rfl⟩
theorem dX7_count_89 : zD cX7_count 89 (.aload_n 0) 1 90 := ⟨by decide +kernel, rfl⟩
theorem dX7_count_90 : zD cX7_count 90 (.getfield 16) 3 93 := ⟨by decide +kernel, rfl⟩
theorem dX7_count_93 : zD cX7_count 93 (.iconst 1) 1 94 := ⟨by decide +kernel, rfl⟩
theorem dX7_count_94 : zD cX7_count 94 (.baload) 1 95 := ⟨by decide +kernel, rfl⟩
theorem dX7_count_95 : zD cX7_count 95 (.invokestatic 176) 3 98 := ⟨by decide +kernel, rfl⟩
theorem dX7_count_98 : zD cX7_count 98 (.iadd) 1 99 := ⟨by decide +kernel, rfl⟩
theorem dX7_count_99 : zD cX7_count 99 (.ireturn) 1 100 := ⟨by decide +kernel, rfl⟩
theorem dX7_count_100 : zD cX7_count 100 (.aload_n 0) 1 101 := ⟨by decide +kernel, rfl⟩
theorem dX7_count_101 : zD cX7_count 101 (.getfield 67) 3 104 := ⟨by decide +kernel, rfl⟩
theorem dX7_count_104 : zD cX7_count 104 (.ireturn) 1 105 := ⟨by decide +kernel, rfl⟩
theorem dX7_count_105 : zD cX7_count 105 (.aload_n 0) 1 106 := ⟨by decide +kernel, rfl⟩
theorem dX7_count_106 : zD cX7_count 106 (.getfield 35) 3 109 := ⟨by decide +kernel, rfl⟩
theorem dX7_count_109 : zD cX7_count 109 (.iconst 0) 1 110 := ⟨by decide +kernel, rfl⟩
theorem dX7_count_110 : zD cX7_count 110 (.iaload) 1 111 := ⟨by decide +kernel, rfl⟩
theorem dX7_count_111 : zD cX7_count 111 (.bipush (-4)) 2 113 := ⟨by decide +kernel, rfl⟩
theorem dX7_count_113 : zJ cX7_count 113 (fun o => .if_icmp .ne o) 121 116 := ⟨8, by decide +kernel, by decide, rfl⟩
theorem dX7_count_116 : zD cX7_count 116 (.bipush (-4)) 2 118 := ⟨by decide +kernel, rfl⟩
theorem dX7_count_118 : zG cX7_count 118 127 := ⟨9, by decide +kernel, by decide⟩
theorem dX7_count_121 : zD cX7_count 121 (.aload_n 0) 1 122 := ⟨by decide +kernel, rfl⟩
theorem dX7_count_122 : zD cX7_count 122 (.getfield 38) 3 125 := ⟨by decide +kernel, rfl⟩
theorem dX7_count_125 : zD cX7_count 125 (.iconst 0) 1 126 := ⟨by decide +kernel, rfl⟩
theorem dX7_count_126 : zD cX7_count 126 (.iaload) 1 127 := ⟨by decide +kernel, rfl⟩
theorem dX7_count_127 : zD cX7_count 127 (.ireturn) 1 128 := ⟨by decide +kernel, rfl⟩
theorem dX7_count_128 : zD cX7_count 128 (.aload_n 0) 1 129 := ⟨by decide +kernel, rfl⟩
theorem dX7_count_129 : zD cX7_count 129 (.iconst 2) 1 130 := ⟨by decide +kernel, rfl⟩
theorem dX7_count_130 : zD cX7_count 130 (.invokevirtual 173) 3 133 := ⟨by decide +kernel, rfl⟩
theorem dX7_count_133 : zD cX7_count 133 (.ireturn) 1 134 := ⟨by decide +kernel, rfl⟩
theorem dX7_count_134 : zD cX7_count 134 (.iload_n 2) 1 135 := ⟨by decide +kernel, rfl⟩
theorem dX7_count_135 : zD cX7_count 135 (.ireturn) 1 136 := ⟨by decide +kernel, rfl⟩
theorem dX7_count_136 : zD cX7_count 136 (.iconst (-1)) 1 137 := ⟨by decide +kernel, rfl⟩
theorem dX7_count_137 : zD cX7_count 137 (.ireturn) 1 138 := ⟨by decide +kernel, rfl⟩
end
section
/-! THE ENGINE: the machine over 70 cells that never move. State: ints by (cell, place), longs by (cell, place); references are the cells' numbers. -/
abbrev ZSt : Type := (Nat → Nat → Int32) × (Nat → Nat → Int64)
def gI (S : ZSt) (k j : Nat) : Int32 := S.1 k j
def gL (S : ZSt) (k j : Nat) : Int64 := S.2 k j
def pI (S : ZSt) (k j : Nat) (x : Int32) : ZSt := (fun a => if a = k then upd (S.1 k) j x else S.1 a, S.2)
def pL (S : ZSt) (k j : Nat) (x : Int64) : ZSt := (S.1, fun a => if a = k then vp_updL (S.2 k) j x else S.2 a)
def cpI (S : ZSt) (k k' sp dp n : Nat) : ZSt := (fun a => if a = k' then va_cpy (S.1 k) (S.1 k') sp dp n else S.1 a, S.2)
theorem gI_pI (S : ZSt) (k j : Nat) (x : Int32) (k' j' : Nat) : gI (pI S k j x) k' j' = if k' = k ∧ j' = j then x else gI S k' j' := by
  unfold gI pI upd
  by_cases h : k' = k
  · subst h
    by_cases h2 : j' = j
    · subst h2; simp
    · simp [h2]
  · simp [h]
theorem gL_pI (S : ZSt) (k j : Nat) (x : Int32) (k' j' : Nat) : gL (pI S k j x) k' j' = gL S k' j' := rfl
theorem gI_pL (S : ZSt) (k j : Nat) (x : Int64) (k' j' : Nat) : gI (pL S k j x) k' j' = gI S k' j' := rfl
theorem gL_pL (S : ZSt) (k j : Nat) (x : Int64) (k' j' : Nat) : gL (pL S k j x) k' j' = if k' = k ∧ j' = j then x else gL S k' j' := by
  unfold gL pL vp_updL
  by_cases h : k' = k
  · subst h
    by_cases h2 : j' = j
    · subst h2; simp
    · simp [h2]
  · simp [h]
theorem gI_cpI (S : ZSt) (k k1 sp dp n : Nat) (k' j' : Nat) : gI (cpI S k k1 sp dp n) k' j' = if k' = k1 ∧ dp ≤ j' ∧ j' < dp + n then gI S k (sp + (j' - dp)) else gI S k' j' := by
  unfold gI cpI va_cpy
  by_cases h : k' = k1
  · subst h; simp
  · simp [h]
theorem gL_cpI (S : ZSt) (k k1 sp dp n : Nat) (k' j' : Nat) : gL (cpI S k k1 sp dp n) k' j' = gL S k' j' := rfl
/-! the layout -/
def zlayT : List (Nat ⊕ (Nat × Nat)) :=
  [.inl 6,
   .inl 2, .inr (0, 6), .inr (0, 6), .inr (0, 6), .inr (0, 4), .inr (0, 4), .inr (0, 6), .inr (0, 6), .inr (0, 6),
   .inl 2, .inr (0, 6), .inr (0, 6), .inr (0, 6), .inr (0, 4), .inr (0, 4), .inr (0, 6), .inr (0, 6), .inr (0, 6),
   .inr (4, 2),
   .inl 2, .inr (0, 6), .inr (0, 6), .inr (0, 6), .inr (0, 4), .inr (0, 4), .inr (0, 6), .inr (0, 6), .inr (0, 6),
   .inl 2, .inr (0, 6), .inr (0, 6), .inr (0, 6), .inr (0, 4), .inr (0, 4), .inr (0, 6), .inr (0, 6), .inr (0, 6),
   .inr (1, 2),
   .inl 5, .inr (2, 160),
   .inl 3, .inr (0, 96), .inr (0, 6), .inr (0, 4), .inr (0, 4),
   .inl 1, .inr (0, 256), .inr (0, 256), .inr (3, 256),
   .inl 0, .inr (0, 10), .inr (0, 10),
   .inl 4, .inr (0, 160), .inr (0, 4), .inr (0, 4),
   .inl 7, .inr (0, 150), .inr (0, 50), .inr (1, 2), .inr (0, 50), .inr (0, 160), .inr (0, 4), .inr (0, 126), .inr (0, 210), .inr (0, 4), .inr (0, 4), .inr (0, 160), .inr (0, 50)]
def zlay (k : Nat) : Nat ⊕ (Nat × Nat) := zlayT.getD k (.inr (0, 0))
def zrf (k j : Nat) : Nat :=
  if k = 0 then [1, 10, 19, 38, 39, 41, 46, 50, 53].getD j 0
  else if k = 57 then [58, 59, 60, 61, 0, 0, 62, 0, 0, 0, 0, 0, 0, 0, 0, 0, 0, 0, 63, 0, 0, 0, 64, 65, 66, 67, 68, 0, 69].getD j 0
  else if k = 19 then (if j = 0 then 20 else 29)
  else k + 1 + j
def ztyA (t : Nat) : FieldType := match t with
  | 0 => .int
  | 1 => .boolean
  | 2 => .byte
  | 3 => .long
  | _ => .object "PraisedFields$Land"
def ztys (cA : Nat → ClassId) : List (ClassId × FieldType) := [(cA 0, .int), (cA 1, .boolean), (cA 2, .byte), (cA 3, .long), (cA 4, .object "PraisedFields$Land")]
def cv (ad : Nat → Nat) (v : Value) : Value := match v with
  | .ref k => .ref (ad k)
  | w => w
theorem cv_cat (ad : Nat → Nat) (v : Value) : (cv ad v).category = v.category := by cases v <;> rfl
def zfv (ad : Nat → Nat) (S : ZSt) (k ci j : Nat) : Value := match zty ci j with
  | .int => .int (S.1 k j)
  | .boolean => .int (S.1 k j)
  | .long => .long (S.2 k j)
  | _ => .ref (ad (zrf k j))
def zfs (ad : Nat → Nat) (S : ZSt) (k ci : Nat) : List Value := (List.range (zC ci).2.2).map (zfv ad S k ci)
def zar (ad : Nat → Nat) (S : ZSt) (k t : Nat) : (Nat → Int32) ⊕ (Nat → Int64) ⊕ (Nat → UInt32) ⊕ (Nat → UInt64) ⊕ (Nat → Option Nat) :=
  if t = 3 then .inr (.inl (S.2 k)) else if t = 4 then .inr (.inr (.inr (.inr (fun i => some (ad (zrf k i)))))) else .inl (S.1 k)
def zen (ad : Nat → Nat) (cA : Nat → ClassId) (S : ZSt) (k : Nat) : va_E := match zlay k with
  | .inl ci => .inr (ci, zfs ad S k ci)
  | .inr (t, n) => .inl (cA t, n, zar ad S k t)
def zws (ad : Nat → Nat) (cA : Nat → ClassId) (S : ZSt) : va_W := (List.range 70).map fun k => (ad k, zen ad cA S k)
def zInj (ad : Nat → Nat) : Prop := ∀ i j, i < 70 → j < 70 → ad i = ad j → i = j
def zA (ad : Nat → Nat) : Nat → Prop := fun q => ∃ k, k < 70 ∧ ad k = q
theorem zws_at (ad : Nat → Nat) (cA : Nat → ClassId) (S : ZSt) {k : Nat} (h : k < 70) : (zws ad cA S)[k]? = some (ad k, zen ad cA S k) := by
  unfold zws; rw [List.getElem?_map, List.getElem?_range h]; rfl
theorem zws_D (ad : Nat → Nat) (cA : Nat → ClassId) (S : ZSt) (hi : zInj ad) : va_D (zA ad) (zws ad cA S) := by
  have key : ∀ (k : Nat) (q : Nat × va_E), (zws ad cA S)[k]? = some q → k < 70 ∧ q.1 = ad k := by
    intro k q h
    have hl := (List.getElem?_eq_some_iff.mp h).1
    have hk : k < 70 := by simpa [zws] using hl
    rw [zws_at ad cA S hk] at h
    cases h
    exact ⟨hk, rfl⟩
  refine ⟨fun i j p q h1 h2 h3 => ?_, fun k q h => ?_⟩
  · obtain ⟨a1, a2⟩ := key i p h1
    obtain ⟨b1, b2⟩ := key j q h2
    exact hi i j a1 b1 (by rw [← a2, ← b2]; exact h3)
  · obtain ⟨a1, a2⟩ := key k q h
    exact ⟨k, a1, a2.symm⟩
theorem zws_set (ad : Nat → Nat) (cA : Nat → ClassId) (S S' : ZSt) (k : Nat) (e : va_E) (h1 : ∀ a, a ≠ k → zen ad cA S' a = zen ad cA S a) (h2 : zen ad cA S' k = e) : (zws ad cA S).set k (ad k, e) = zws ad cA S' := by
  apply List.ext_getElem?
  intro i
  by_cases hi : i < 70
  · by_cases hk : i = k
    · subst hk
      rw [List.getElem?_set_self (by simpa [zws] using hi), zws_at ad cA S' hi, h2]
    · rw [List.getElem?_set_ne (Ne.symm hk), zws_at ad cA S hi, zws_at ad cA S' hi, h1 i hk]
  · have a1 : ((zws ad cA S).set k (ad k, e)).length = 70 := by simp [zws]
    have a2 : (zws ad cA S').length = 70 := by simp [zws]
    rw [List.getElem?_eq_none (by omega), List.getElem?_eq_none (by omega)]
theorem zen_ne_I (ad : Nat → Nat) (cA : Nat → ClassId) (S : ZSt) (k j : Nat) (x : Int32) (a : Nat) (h : a ≠ k) : zen ad cA (pI S k j x) a = zen ad cA S a := by
  have e : (pI S k j x).1 a = S.1 a := by simp [pI, h]
  have e2 : (pI S k j x).2 = S.2 := rfl
  unfold zen
  split
  · congr 2
    unfold zfs
    congr 1
    funext q
    unfold zfv
    rw [e, e2]
  · unfold zar
    rw [e, e2]
theorem zen_ne_L (ad : Nat → Nat) (cA : Nat → ClassId) (S : ZSt) (k j : Nat) (x : Int64) (a : Nat) (h : a ≠ k) : zen ad cA (pL S k j x) a = zen ad cA S a := by
  have e : (pL S k j x).2 a = S.2 a := by simp [pL, h]
  have e2 : (pL S k j x).1 = S.1 := rfl
  unfold zen
  split
  · congr 2
    unfold zfs
    congr 1
    funext q
    unfold zfv
    rw [e, e2]
  · unfold zar
    rw [e, e2]
theorem zen_ne_C (ad : Nat → Nat) (cA : Nat → ClassId) (S : ZSt) (k k' sp dp n : Nat) (a : Nat) (h : a ≠ k') : zen ad cA (cpI S k k' sp dp n) a = zen ad cA S a := by
  have e : (cpI S k k' sp dp n).1 a = S.1 a := by simp [cpI, h]
  have e2 : (cpI S k k' sp dp n).2 = S.2 := rfl
  unfold zen
  split
  · congr 2
    unfold zfs
    congr 1
    funext q
    unfold zfv
    rw [e, e2]
  · unfold zar
    rw [e, e2]
theorem zmap_set {α : Type} (f f' : Nat → α) (n j : Nat) (v : α) (h1 : ∀ a, a ≠ j → f' a = f a) (h2 : f' j = v) : ((List.range n).map f).set j v = (List.range n).map f' := by
  apply List.ext_getElem?
  intro i
  by_cases hi : i < n
  · by_cases hj : i = j
    · subst hj
      rw [List.getElem?_set_self (by simpa using hi), List.getElem?_map, List.getElem?_range hi]
      simp [h2]
    · rw [List.getElem?_set_ne (Ne.symm hj), List.getElem?_map, List.getElem?_map, List.getElem?_range hi]
      simp [h1 i hj]
  · rw [List.getElem?_eq_none (by simpa using hi), List.getElem?_eq_none (by simpa using hi)]
/-! locals -/
def zprs (ad : Nat → Nat) : Nat → List (Option Value) → List (Nat × Value)
  | _, [] => []
  | i, none :: r => zprs ad (i + 1) r
  | i, some v :: r => (i, cv ad v) :: zprs ad (i + 1) r
theorem zprs_mem (ad : Nat → Nat) : ∀ (ls : List (Option Value)) (b : Nat) (q : Nat × Value), q ∈ zprs ad b ls ↔ ∃ (j : Nat) (u : Value), ls[j]? = some (some u) ∧ q = (b + j, cv ad u)
  | [], b, q => by simp [zprs]
  | none :: r, b, q => by
    rw [zprs, zprs_mem ad r (b + 1) q]
    constructor
    · rintro ⟨j, u, h1, h2⟩
      exact ⟨j + 1, u, by simpa using h1, by rw [h2]; congr 1; omega⟩
    · rintro ⟨j, u, h1, h2⟩
      cases j with
      | zero => simp at h1
      | succ j => exact ⟨j, u, by simpa using h1, by rw [h2]; congr 1; omega⟩
  | some v :: r, b, q => by
    rw [zprs, List.mem_cons, zprs_mem ad r (b + 1) q]
    constructor
    · rintro (h | ⟨j, u, h1, h2⟩)
      · exact ⟨0, v, rfl, h⟩
      · exact ⟨j + 1, u, by simpa using h1, by rw [h2]; congr 1; omega⟩
    · rintro ⟨j, u, h1, h2⟩
      cases j with
      | zero =>
        left
        simp at h1
        rw [h2, h1]; rfl
      | succ j => right; exact ⟨j, u, by simpa using h1, by rw [h2]; congr 1; omega⟩
def LH (ad : Nat → Nat) (ls' : Array Slot) (nL : Nat) (ls : List (Option Value)) : Prop := lv_has ls' nL (zprs ad 0 ls) ∧ ls.length = nL
theorem LH.get {ad : Nat → Nat} {ls' : Array Slot} {nL : Nat} {ls : List (Option Value)} (h : LH ad ls' nL ls) {i : Nat} {v : Value} (hi : ls[i]? = some (some v)) : ls'[i]? = some (.val (cv ad v)) := by
  have := h.1.2.2 (i, cv ad v) ((zprs_mem ad ls 0 _).mpr ⟨i, v, hi, by simp⟩)
  exact this
/-- not a value of two slots -/
def znl (o : Option Value) : Bool := match o with
  | some (.long _) => false
  | some (.double _) => false
  | _ => true
theorem znl_cat {v : Value} (h : znl (some v) = true) : v.category = 1 := by cases v <;> first | rfl | (simp [znl] at h)
/-- a store at place i: the one before it is no value of two slots -/
theorem LH.set1 {ad : Nat → Nat} {ls' ls2 : Array Slot} {nL : Nat} {ls : List (Option Value)} {i : Nat} {v : Value} (h : LH ad ls' nL ls) (hp : ∀ j o, i = j + 1 → ls[j]? = some o → znl o = true)
    (h2 : lv_has ls2 nL ((i, cv ad v) :: (zprs ad 0 ls).filter (fun q => !(q.1 == i) && !(q.1 + 1 == i && q.2.category == 2)))) : LH ad ls2 nL (ls.set i (some v)) := by
  refine ⟨⟨h2.1, h2.2.1, fun q hq => ?_⟩, by simpa using h.2⟩
  obtain ⟨j, u, a1, a2⟩ := (zprs_mem ad _ 0 q).mp hq
  by_cases hj : j = i
  · subst hj
    have hlt : j < ls.length := by
      have := (List.getElem?_eq_some_iff.mp a1).1
      simpa using this
    rw [List.getElem?_set_self hlt] at a1
    cases a1
    rw [a2]
    have := h2.2.2 (j, cv ad v) List.mem_cons_self
    simpa using this
  · rw [List.getElem?_set_ne (Ne.symm hj)] at a1
    refine h2.2.2 q (List.mem_cons_of_mem _ (List.mem_filter.mpr ⟨(zprs_mem ad ls 0 q).mpr ⟨j, u, a1, a2⟩, ?_⟩))
    rw [a2]
    have n1 : ¬ (0 + j = i) := by omega
    by_cases hj1 : 0 + j + 1 = i
    · have hz := hp j (some u) (by omega) a1
      have hc : (cv ad u).category = 1 := by rw [cv_cat]; exact znl_cat hz
      simp [hj, hc]
    · simp only [Nat.zero_add] at hj1 n1 ⊢
      simp [n1, hj1]
theorem LH.set2 {ad : Nat → Nat} {ls' ls2 : Array Slot} {nL : Nat} {ls : List (Option Value)} {i : Nat} {v : Value} (h : LH ad ls' nL ls) (hp : ∀ j o, i = j + 1 → ls[j]? = some o → znl o = true)
    (h2 : lv_has ls2 nL ((i, cv ad v) :: (zprs ad 0 ls).filter (fun q => !(q.1 == i) && (!(q.1 == i + 1) && !(q.1 + 1 == i && q.2.category == 2))))) : LH ad ls2 nL ((ls.set i (some v)).set (i + 1) none) := by
  refine ⟨⟨h2.1, h2.2.1, fun q hq => ?_⟩, by simpa using h.2⟩
  obtain ⟨j, u, a1, a2⟩ := (zprs_mem ad _ 0 q).mp hq
  have hj1' : j ≠ i + 1 := by
    intro hj
    subst hj
    have hlt : i + 1 < (ls.set i (some v)).length := by
      have := (List.getElem?_eq_some_iff.mp a1).1
      simpa using this
    rw [List.getElem?_set_self hlt] at a1
    cases a1
  rw [List.getElem?_set_ne (Ne.symm hj1')] at a1
  by_cases hj : j = i
  · subst hj
    have hlt : j < ls.length := by
      have := (List.getElem?_eq_some_iff.mp a1).1
      simpa using this
    rw [List.getElem?_set_self hlt] at a1
    cases a1
    rw [a2]
    have := h2.2.2 (j, cv ad v) List.mem_cons_self
    simpa using this
  · rw [List.getElem?_set_ne (Ne.symm hj)] at a1
    refine h2.2.2 q (List.mem_cons_of_mem _ (List.mem_filter.mpr ⟨(zprs_mem ad ls 0 q).mpr ⟨j, u, a1, a2⟩, ?_⟩))
    rw [a2]
    by_cases hj1 : 0 + j + 1 = i
    · have hz := hp j (some u) (by omega) a1
      have hc : (cv ad u).category = 1 := by rw [cv_cat]; exact znl_cat hz
      simp [hj, hc, hj1']
    · simp only [Nat.zero_add] at hj1 ⊢
      simp [hj, hj1, hj1']
/-- forgetting: any list that has no more -/
theorem LH.sub {ad : Nat → Nat} {ls' : Array Slot} {nL : Nat} {ls l2 : List (Option Value)} (h : LH ad ls' nL ls) (hl : l2.length = ls.length) (hs : ∀ (i : Nat) (v : Value), l2[i]? = some (some v) → ls[i]? = some (some v)) : LH ad ls' nL l2 := by
  refine ⟨⟨h.1.1, h.1.2.1, fun q hq => ?_⟩, hl.trans h.2⟩
  obtain ⟨j, u, a1, a2⟩ := (zprs_mem ad _ 0 q).mp hq
  exact h.1.2.2 q ((zprs_mem ad ls 0 q).mpr ⟨j, u, hs j u a1, a2⟩)
def zfg : List (Option Value) → List (Option Value) → Prop
  | [], [] => True
  | none :: a, _ :: b => zfg a b
  | some v :: a, w :: b => w = some v ∧ zfg a b
  | _, _ => False
theorem zfg_len : ∀ (a b : List (Option Value)), zfg a b → a.length = b.length
  | [], [], _ => rfl
  | none :: a, _ :: b, h => by simpa using zfg_len a b h
  | some v :: a, w :: b, h => by simpa using zfg_len a b h.2
  | [], _ :: _, h => h.elim
  | none :: _, [], h => h.elim
  | some _ :: _, [], h => h.elim
theorem zfg_at : ∀ (a b : List (Option Value)), zfg a b → ∀ (i : Nat) (v : Value), a[i]? = some (some v) → b[i]? = some (some v)
  | [], [], _, i, v, h => by simp at h
  | none :: a, _ :: b, h, i, v, hi => by
    cases i with
    | zero => simp at hi
    | succ i => simpa using zfg_at a b h i v (by simpa using hi)
  | some u :: a, w :: b, h, i, v, hi => by
    cases i with
    | zero => simp at hi; simp [h.1, hi]
    | succ i => simpa using zfg_at a b h.2 i v (by simpa using hi)
  | [], _ :: _, h, _, _, _ => h.elim
  | none :: _, [], h, _, _, _ => h.elim
  | some _ :: _, [], h, _, _, _ => h.elim
end
section
/-! THE JUDGEMENTS: zSem (from here on the method returns so), zEv (a method, called so, returns so) -/
def zTb (U : State) : Prop := ∀ w ∈ zW, ∀ a : Array Value, w.before a U = true
def zlens : List Nat := [5, 4, 3, 4, 4, 4]
def zbyts : List (List Int32) := [[112, 108, 97, 105, 110], [118, 97, 105, 110], [115, 104, 121], [100, 101, 97, 102], [98, 97, 110, 100], [103, 108, 117, 116]]
def zpool : List (Nat × String) := [(118, "plain"), (124, "vain"), (126, "shy"), (128, "deaf"), (130, "band"), (132, "glut")]
/-- the String constants (cells 70 to 75, their bytes 80 to 85), and the JDK's statics -/
def zExt (ad : Nat → Nat) (U : State) (H : Heap) : Prop :=
  vk_S 6 zlens zbyts (fun i => ad (70 + i)) (fun i => ad (80 + i)) (zA ad) U H ∧
  (∀ (i : Nat) (q : Nat × String), zpool[i]? = some q → vk_R RX5 q.1 q.2 (ad (70 + i)) U) ∧
  va_Z "java/lang/String" "COMPACT_STRINGS" "Z" (.int 1) (zA ad) U H ∧ va_Zq "jdk/internal/util/Preconditions" "SIOOBE_FORMATTER" "Ljava/util/function/BiFunction;" (zA ad) U H
theorem zExt.kept {ad : Nat → Nat} {U : State} {H H1 : Heap} (h : zExt ad U H) (hq : ∀ a : Nat, a < H.size → ¬ zA ad a → H1[a]? = H[a]?) : zExt ad U H1 := ⟨h.1.kept hq, h.2.1, h.2.2.1.kept hq, h.2.2.2.kept hq⟩
theorem zExt.warm {ad : Nat → Nat} {s U : State} {H : Heap} (hW : s.WarmedH U.vm) (h : zExt ad s H) : zExt ad U H := ⟨h.1.moved hW.alike, fun i q hi => (h.2.1 i q hi).warm hW, h.2.2.1.moved hW.alike, h.2.2.2.moved hW.alike⟩
theorem zTb.warm {s U : State} (hW : s.WarmedH U.vm) (h : zTb s) : zTb U := by
  intro w hw a
  have hk := (List.mem_filter.mp hw).2
  have h0 := h w hw #[]
  unfold zok at hk
  rcases Bool.or_eq_true _ _ |>.mp hk with h1 | h1
  · exact word_at hW (Or.inl h1) h0
  · cases w <;> first | (simp [zNest] at h1; done) | exact va_Nw.use rfl (va_Nw.warmM hW h0)
theorem zTb.same {u U : State} (hv : u.vm = U.vm) (h : zTb u) : zTb U := by
  intro w hw a
  have hk := (List.mem_filter.mp hw).2
  have h0 := h w hw #[]
  have ho : w.onTables = true := by
    unfold zok at hk
    rcases Bool.or_eq_true _ _ |>.mp hk with h1 | h1
    · exact (Bool.and_eq_true _ _ |>.mp h1).1
    · cases w <;> first | (simp [zNest] at h1; done) | rfl
  exact va_tabs ho hv h0
def zPc (D : va_G) (ad : Nat → Nat) (cA : Nat → ClassId) (args : List Value) (S : ZSt) : Array Value → State → Prop := va_Pc (args.map (cv ad)) (fun U => va_P D vwCl (zws ad cA S) U.heap ∧ va_K D vwCl (ztys cA) U ∧ zTb U ∧ zInj ad ∧ zExt ad U U.heap)
def zQc (D : va_G) (ad : Nat → Nat) (cA : Nat → ClassId) (Q : Option Value → ZSt → Prop) : Array Value → State → Outcome → State → Prop := fun _ st o t => (∃ (r : Option Value) (S' : ZSt), o = .returned (r.map (cv ad)) ∧ Q r S' ∧ va_P D vwCl (zws ad cA S') t.heap) ∧ va_F (zA ad) st t
def zEv (d : Nat) (M : ZM) (args : List Value) (S : ZSt) (Q : Option Value → ZSt → Prop) : Prop :=
  ∀ (l : Launch) (D : va_G) (ad : Nat → Nat) (cA : Nat → ClassId) (rm : Room), rm.cells = 0 → rm.slots = 0 → d ≤ rm.frames → 36 * d ≤ rm.locals →
    Met l M.1 [.code M.1 M.2.1 M.2.2.1 M.2.2.2] rm (zPc D ad cA args S) (zQc D ad cA Q) 0 0 (zA ad)
theorem zEv.mono {d d' : Nat} {M : ZM} {args : List Value} {S : ZSt} {Q : Option Value → ZSt → Prop} (h : zEv d M args S Q) (hd : d ≤ d') : zEv d' M args S Q := fun l D ad cA rm a b c e => h l D ad cA rm a b (by omega) (by omega)
def zCtx (p : Program) (R : Room) (s : State) (m : MethodId) (args : Array Value) (meth : Method) (c : Code) (D : va_G) (ad : Nat → Nat) (cA : Nat → ClassId) (d : Nat) (M : ZM) : Prop :=
  p.tables.exec = Jvm.exec ∧ c.code = M.2.1 ∧ c.maxLocals = M.2.2.1 ∧ s.vm.findClass M.1.cls = some m.cls ∧ zTb s ∧ meth.sig.returnType = M.2.2.2 ∧ meth.locks = false ∧ d ≤ R.frames ∧ 36 * d ≤ R.locals ∧ va_K D vwCl (ztys cA) s ∧ zInj ad ∧ zExt ad s s.heap
def zSem (d : Nat) (M : ZM) (pc : Nat) (ls : List (Option Value)) (st : List Value) (S : ZSt) (Q : Option Value → ZSt → Prop) : Prop :=
  ∀ (p : Program) (l : Launch) (e : Env) (R : Room) (s : State) (m : MethodId) (args : Array Value) (below : List Frame) (meth : Method) (c : Code) (D : va_G) (ad : Nat → Nat) (cA : Nat → ClassId) (H : Heap) (locs : List Loc) (ls' : Array Slot),
    zCtx p R s m args meth c D ad cA d M → va_P D vwCl (zws ad cA S) H → va_S (zA ad) s.heap H locs → LH ad ls' M.2.2.1 ls →
    W p l e R s m args below meth c H locs 0 0 (MQ below (zQc D ad cA Q) args s 0 0 (zA ad)) (F0 m pc ls' (st.map (cv ad)))
/-- the locals with which a method begins -/
def zsl (vs : List Value) : List (Option Value) := vs.flatMap fun v => if v.category = 2 then [some v, none] else [some v]
def zent (n : Nat) (vs : List Value) : List (Option Value) := zsl vs ++ List.replicate (n - (lg_sl vs).length) none
theorem zprs_app (ad : Nat → Nat) : ∀ (x y : List (Option Value)) (b : Nat), zprs ad b (x ++ y) = zprs ad b x ++ zprs ad (b + x.length) y
  | [], y, b => rfl
  | none :: x, y, b => by
    rw [List.cons_append, zprs, zprs, zprs_app ad x y (b + 1), List.length_cons]
    congr 2; omega
  | some v :: x, y, b => by
    rw [List.cons_append, zprs, zprs, zprs_app ad x y (b + 1), List.length_cons, List.cons_append]
    congr 3; omega
theorem zprs_none (ad : Nat → Nat) : ∀ (n b : Nat), zprs ad b (List.replicate n none) = []
  | 0, _ => rfl
  | n + 1, b => by rw [List.replicate_succ, zprs]; exact zprs_none ad n (b + 1)
theorem zsl_ok (ad : Nat → Nat) : ∀ (vs : List Value) (b : Nat), (zsl vs).length = (lg_sl vs).length ∧ zprs ad b (zsl vs) = lv_args b (vs.map (cv ad))
  | [], b => ⟨rfl, rfl⟩
  | v :: vs, b => by
    by_cases hc : v.category = 2
    · obtain ⟨a1, a2⟩ := zsl_ok ad vs (b + 2)
      have e1 : zsl (v :: vs) = some v :: none :: zsl vs := by simp [zsl, hc]
      have e2 : lg_sl (v :: vs) = .val v :: .second :: lg_sl vs := by simp [lg_sl, hc]
      refine ⟨by rw [e1, e2]; simp [a1], ?_⟩
      rw [e1, zprs, zprs, List.map_cons, lv_args, cv_cat, if_pos hc, a2]
    · obtain ⟨a1, a2⟩ := zsl_ok ad vs (b + 1)
      have e1 : zsl (v :: vs) = some v :: zsl vs := by simp [zsl, hc]
      have e2 : lg_sl (v :: vs) = .val v :: lg_sl vs := by simp [lg_sl, hc]
      refine ⟨by rw [e1, e2]; simp [a1], ?_⟩
      rw [e1, zprs, List.map_cons, lv_args, cv_cat, if_neg hc, a2]
theorem zent_ok (ad : Nat → Nat) (vs : List Value) (n b : Nat) (h : (lg_sl vs).length ≤ n) : (zent n vs).length = n ∧ zprs ad b (zent n vs) = lv_args b (vs.map (cv ad)) := by
  obtain ⟨a1, a2⟩ := zsl_ok ad vs b
  refine ⟨by simp [zent, a1]; omega, ?_⟩
  rw [zent, zprs_app, zprs_none, List.append_nil, a2]
theorem zsl_len (ad : Nat → Nat) (vs : List Value) : (lg_sl (vs.map (cv ad))).length = (lg_sl vs).length := by
  induction vs with
  | nil => rfl
  | cons v t ih =>
    simp only [lg_sl, List.map_cons, List.flatMap_cons, List.length_append, cv_cat] at ih ⊢
    rw [ih]
    by_cases h : v.category = 2 <;> simp [h]
theorem zEv.of {d : Nat} {M : ZM} {args : List Value} {S : ZSt} {Q : Option Value → ZSt → Prop} {ls : List (Option Value)} {n : Nat} (cw : zCW M n) (hn : (lg_sl args).length ≤ M.2.2.1) (hl : zent M.2.2.1 args = ls) (h : zSem d M 0 ls [] S Q) : zEv d M args S Q := by
  intro l D ad cA rm h1 h2 h3 h4
  refine Met.ofW (cc := M.2.1) (maxL := M.2.2.1) (ret := M.2.2.2) cw.2.2.2.2 rfl ?_
  intro p e s m a below meth c s₁ B hml hv
  obtain ⟨rfl, hP, hK, hT, hI, hE⟩ := hv
  rw [lg_entry_eq]
  have hn' : (lg_sl (args.map (cv ad))).length ≤ M.2.2.1 := by rw [zsl_len]; exact hn
  obtain ⟨e1, e2⟩ := zent_ok ad args M.2.2.1 0 hn
  have hle := lv_entry (args.map (cv ad)) hn'
  rw [← e2, hl] at hle
  exact h p l e _ s m _ below meth c D ad cA s.heap [] _ ⟨B.exec, B.bytes, hml, findClass_of_methodNamed B.named, hT, B.returns, B.notSynchronized, h3, h4, hK, hI, hE⟩ hP va_S.rf ⟨hle, by rw [← hl]; exact e1⟩
theorem zSem.mono {d d' : Nat} {M : ZM} {pc : Nat} {ls : List (Option Value)} {st : List Value} {S : ZSt} {Q : Option Value → ZSt → Prop} (h : zSem d M pc ls st S Q) (hd : d ≤ d') : zSem d' M pc ls st S Q := by
  intro p l e R s m args below meth c D ad cA H locs ls' C
  obtain ⟨c1, c2, c3, c4, c5, c6, c7, c8, c9, c10⟩ := C
  exact h p l e R s m args below meth c D ad cA H locs ls' ⟨c1, c2, c3, c4, c5, c6, c7, by omega, by omega, c10⟩
/-- what isn't needed is forgotten -/
theorem zSem.sub {d : Nat} {M : ZM} {pc : Nat} {ls l2 : List (Option Value)} {st : List Value} {S : ZSt} {Q : Option Value → ZSt → Prop} (hs : zfg l2 ls) (h : zSem d M pc l2 st S Q) : zSem d M pc ls st S Q := fun p l e R s m args below meth c D ad cA H locs ls' C hP hS hl =>
  h p l e R s m args below meth c D ad cA H locs ls' C hP hS (hl.sub (zfg_len _ _ hs) (zfg_at _ _ hs))
theorem zcat (ad : Nat → Nat) (st : List Value) : ((st.map (cv ad)).map fun v => v.category).sum = (st.map fun v => v.category).sum := by
  rw [List.map_map]
  congr 1
  apply List.map_congr_left
  intro v _
  exact cv_cat ad v
theorem zblind (D : va_G) (ad : Nat → Nat) (cA : Nat → ClassId) (args : List Value) (S : ZSt) : FrameBlind (zPc D ad cA args S) := by
  intro a U g mk h
  obtain ⟨h1, h2, h3, h4, h5, h6⟩ := h
  have hv : U.vm = (U.calling g mk a).vm := rfl
  refine ⟨h1, h2, va_K.moved (u := U) (U := U.calling g mk a) (Vm.Alike.refl U.vm) h3, h4.same hv, h5, ?_⟩
  exact ⟨h6.1.moved (Vm.Alike.refl U.vm), fun i q hi => (h6.2.1 i q hi).same hv.symm, h6.2.2.1.moved (Vm.Alike.refl U.vm), h6.2.2.2.moved (Vm.Alike.refl U.vm)⟩
end
