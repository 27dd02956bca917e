section
-- ===== PART A: goes FIRST, ahead of the names: the tables' words, and 'selects' of the private methods out of them =====
/-- a private method of a class that the tables say can be made, by its rows of tables_1 -/
def lw_okq (q : MethodName × Nat) : Prop := (q.1.cls ≠ "java/lang/invoke/MethodHandle" ∧ q.1.cls ≠ "java/lang/invoke/VarHandle") ∧ Cond.instantiable q.1.cls q.2 ∈ tables_1 ∧ Cond.privateMethod q.1 ∈ tables_1 ∧ Cond.instanceMethod q.1 ∈ tables_1
theorem lw_p0 : lw_okq (⟨"SweetWraps$History", "dropOldest", "()V"⟩, 3) := ⟨⟨by decide +kernel, by decide +kernel⟩, List.mem_of_getElem? (i := 122) (by decide +kernel), List.mem_of_getElem? (i := 240) (by decide +kernel), List.mem_of_getElem? (i := 241) (by decide +kernel)⟩
theorem lw_p1 : lw_okq (⟨"SweetWraps$Machine", "isTin", "(I)Z"⟩, 8) := ⟨⟨by decide +kernel, by decide +kernel⟩, List.mem_of_getElem? (i := 23) (by decide +kernel), List.mem_of_getElem? (i := 290) (by decide +kernel), List.mem_of_getElem? (i := 291) (by decide +kernel)⟩
theorem lw_p2 : lw_okq (⟨"SweetWraps$Machine", "isOpenTinWithBoth", "(II)Z"⟩, 8) := ⟨⟨by decide +kernel, by decide +kernel⟩, List.mem_of_getElem? (i := 23) (by decide +kernel), List.mem_of_getElem? (i := 302) (by decide +kernel), List.mem_of_getElem? (i := 303) (by decide +kernel)⟩
theorem lw_p3 : lw_okq (⟨"SweetWraps$Machine", "isOpen", "(I)Z"⟩, 8) := ⟨⟨by decide +kernel, by decide +kernel⟩, List.mem_of_getElem? (i := 23) (by decide +kernel), List.mem_of_getElem? (i := 306) (by decide +kernel), List.mem_of_getElem? (i := 307) (by decide +kernel)⟩
theorem lw_p4 : lw_okq (⟨"SweetWraps$Machine", "workLane", "(LSweetWraps$Lane;)I"⟩, 8) := ⟨⟨by decide +kernel, by decide +kernel⟩, List.mem_of_getElem? (i := 23) (by decide +kernel), List.mem_of_getElem? (i := 326) (by decide +kernel), List.mem_of_getElem? (i := 327) (by decide +kernel)⟩
theorem lw_p5 : lw_okq (⟨"SweetWraps$Machine", "foilOfPull", "()I"⟩, 8) := ⟨⟨by decide +kernel, by decide +kernel⟩, List.mem_of_getElem? (i := 23) (by decide +kernel), List.mem_of_getElem? (i := 330) (by decide +kernel), List.mem_of_getElem? (i := 331) (by decide +kernel)⟩
theorem lw_p6 : lw_okq (⟨"SweetWraps$Machine", "pullsUntilTear", "()I"⟩, 8) := ⟨⟨by decide +kernel, by decide +kernel⟩, List.mem_of_getElem? (i := 23) (by decide +kernel), List.mem_of_getElem? (i := 334) (by decide +kernel), List.mem_of_getElem? (i := 335) (by decide +kernel)⟩
theorem lw_p7 : lw_okq (⟨"SweetWraps$Machine", "tinFor", "(I)I"⟩, 8) := ⟨⟨by decide +kernel, by decide +kernel⟩, List.mem_of_getElem? (i := 23) (by decide +kernel), List.mem_of_getElem? (i := 345) (by decide +kernel), List.mem_of_getElem? (i := 346) (by decide +kernel)⟩
theorem lw_p8 : lw_okq (⟨"SweetWraps$Machine", "reasonOf", "(LSweetWraps$Lane;I)I"⟩, 8) := ⟨⟨by decide +kernel, by decide +kernel⟩, List.mem_of_getElem? (i := 23) (by decide +kernel), List.mem_of_getElem? (i := 353) (by decide +kernel), List.mem_of_getElem? (i := 354) (by decide +kernel)⟩
theorem lw_p9 : lw_okq (⟨"SweetWraps$Machine", "reasonNow", "(LSweetWraps$Lane;)I"⟩, 8) := ⟨⟨by decide +kernel, by decide +kernel⟩, List.mem_of_getElem? (i := 23) (by decide +kernel), List.mem_of_getElem? (i := 379) (by decide +kernel), List.mem_of_getElem? (i := 380) (by decide +kernel)⟩
theorem lw_p10 : lw_okq (⟨"SweetWraps$Machine", "flavoursTakenBy", "(LSweetWraps$Tin;)I"⟩, 8) := ⟨⟨by decide +kernel, by decide +kernel⟩, List.mem_of_getElem? (i := 23) (by decide +kernel), List.mem_of_getElem? (i := 400) (by decide +kernel), List.mem_of_getElem? (i := 401) (by decide +kernel)⟩
theorem lw_p11 : lw_okq (⟨"SweetWraps$Machine", "sweetsInHoppers", "(I)I"⟩, 8) := ⟨⟨by decide +kernel, by decide +kernel⟩, List.mem_of_getElem? (i := 23) (by decide +kernel), List.mem_of_getElem? (i := 420) (by decide +kernel), List.mem_of_getElem? (i := 421) (by decide +kernel)⟩
theorem lw_p12 : lw_okq (⟨"SweetWraps$Machine", "sweetsInTins", "(IZ)I"⟩, 8) := ⟨⟨by decide +kernel, by decide +kernel⟩, List.mem_of_getElem? (i := 23) (by decide +kernel), List.mem_of_getElem? (i := 428) (by decide +kernel), List.mem_of_getElem? (i := 429) (by decide +kernel)⟩
theorem lw_p13 : lw_okq (⟨"SweetWraps$Machine", "openTinsAhead", "(I)I"⟩, 8) := ⟨⟨by decide +kernel, by decide +kernel⟩, List.mem_of_getElem? (i := 23) (by decide +kernel), List.mem_of_getElem? (i := 440) (by decide +kernel), List.mem_of_getElem? (i := 441) (by decide +kernel)⟩
theorem lw_p14 : lw_okq (⟨"SweetWraps$Machine", "sweetsInAllTins", "(I)I"⟩, 8) := ⟨⟨by decide +kernel, by decide +kernel⟩, List.mem_of_getElem? (i := 23) (by decide +kernel), List.mem_of_getElem? (i := 452) (by decide +kernel), List.mem_of_getElem? (i := 453) (by decide +kernel)⟩
theorem lw_p15 : lw_okq (⟨"SweetWraps$Machine", "flavoursAhead", "(I)I"⟩, 8) := ⟨⟨by decide +kernel, by decide +kernel⟩, List.mem_of_getElem? (i := 23) (by decide +kernel), List.mem_of_getElem? (i := 456) (by decide +kernel), List.mem_of_getElem? (i := 457) (by decide +kernel)⟩
def lw_privs_1 : List (MethodName × Nat) := [(⟨"SweetWraps$History", "dropOldest", "()V"⟩, 3), (⟨"SweetWraps$Machine", "isTin", "(I)Z"⟩, 8), (⟨"SweetWraps$Machine", "isOpenTinWithBoth", "(II)Z"⟩, 8), (⟨"SweetWraps$Machine", "isOpen", "(I)Z"⟩, 8), (⟨"SweetWraps$Machine", "workLane", "(LSweetWraps$Lane;)I"⟩, 8), (⟨"SweetWraps$Machine", "foilOfPull", "()I"⟩, 8), (⟨"SweetWraps$Machine", "pullsUntilTear", "()I"⟩, 8), (⟨"SweetWraps$Machine", "tinFor", "(I)I"⟩, 8), (⟨"SweetWraps$Machine", "reasonOf", "(LSweetWraps$Lane;I)I"⟩, 8), (⟨"SweetWraps$Machine", "reasonNow", "(LSweetWraps$Lane;)I"⟩, 8), (⟨"SweetWraps$Machine", "flavoursTakenBy", "(LSweetWraps$Tin;)I"⟩, 8), (⟨"SweetWraps$Machine", "sweetsInHoppers", "(I)I"⟩, 8), (⟨"SweetWraps$Machine", "sweetsInTins", "(IZ)I"⟩, 8), (⟨"SweetWraps$Machine", "openTinsAhead", "(I)I"⟩, 8), (⟨"SweetWraps$Machine", "sweetsInAllTins", "(I)I"⟩, 8), (⟨"SweetWraps$Machine", "flavoursAhead", "(I)I"⟩, 8)]
theorem lw_r1 : ∀ q ∈ lw_privs_1, lw_okq q := List.forall_mem_cons.mpr ⟨lw_p0, List.forall_mem_cons.mpr ⟨lw_p1, List.forall_mem_cons.mpr ⟨lw_p2, List.forall_mem_cons.mpr ⟨lw_p3, List.forall_mem_cons.mpr ⟨lw_p4, List.forall_mem_cons.mpr ⟨lw_p5, List.forall_mem_cons.mpr ⟨lw_p6, List.forall_mem_cons.mpr ⟨lw_p7, List.forall_mem_cons.mpr ⟨lw_p8, List.forall_mem_cons.mpr ⟨lw_p9, List.forall_mem_cons.mpr ⟨lw_p10, List.forall_mem_cons.mpr ⟨lw_p11, List.forall_mem_cons.mpr ⟨lw_p12, List.forall_mem_cons.mpr ⟨lw_p13, List.forall_mem_cons.mpr ⟨lw_p14, List.forall_mem_cons.mpr ⟨lw_p15, fun _ h => absurd h List.not_mem_nil⟩⟩⟩⟩⟩⟩⟩⟩⟩⟩⟩⟩⟩⟩⟩⟩
theorem lw_p16 : lw_okq (⟨"SweetWraps$Machine", "tinsThatAre", "(Z)I"⟩, 8) := ⟨⟨by decide +kernel, by decide +kernel⟩, List.mem_of_getElem? (i := 23) (by decide +kernel), List.mem_of_getElem? (i := 468) (by decide +kernel), List.mem_of_getElem? (i := 469) (by decide +kernel)⟩
theorem lw_p17 : lw_okq (⟨"SweetWraps$Machine", "overLanes", "(I)I"⟩, 8) := ⟨⟨by decide +kernel, by decide +kernel⟩, List.mem_of_getElem? (i := 23) (by decide +kernel), List.mem_of_getElem? (i := 472) (by decide +kernel), List.mem_of_getElem? (i := 473) (by decide +kernel)⟩
theorem lw_p18 : lw_okq (⟨"SweetWraps$Machine", "sweetsShipped", "()I"⟩, 8) := ⟨⟨by decide +kernel, by decide +kernel⟩, List.mem_of_getElem? (i := 23) (by decide +kernel), List.mem_of_getElem? (i := 477) (by decide +kernel), List.mem_of_getElem? (i := 478) (by decide +kernel)⟩
theorem lw_p19 : lw_okq (⟨"SweetWraps$Machine", "standingLanes", "()I"⟩, 8) := ⟨⟨by decide +kernel, by decide +kernel⟩, List.mem_of_getElem? (i := 23) (by decide +kernel), List.mem_of_getElem? (i := 481) (by decide +kernel), List.mem_of_getElem? (i := 482) (by decide +kernel)⟩
theorem lw_p20 : lw_okq (⟨"SweetWraps$Pad", "signHere", "()I"⟩, 6) := ⟨⟨by decide +kernel, by decide +kernel⟩, List.mem_of_getElem? (i := 142) (by decide +kernel), List.mem_of_getElem? (i := 550) (by decide +kernel), List.mem_of_getElem? (i := 551) (by decide +kernel)⟩
theorem lw_p21 : lw_okq (⟨"SweetWraps$Pad", "readPart", "(I)Z"⟩, 6) := ⟨⟨by decide +kernel, by decide +kernel⟩, List.mem_of_getElem? (i := 142) (by decide +kernel), List.mem_of_getElem? (i := 612) (by decide +kernel), List.mem_of_getElem? (i := 613) (by decide +kernel)⟩
theorem lw_p22 : lw_okq (⟨"SweetWraps$Pad", "readDigit", "()Z"⟩, 6) := ⟨⟨by decide +kernel, by decide +kernel⟩, List.mem_of_getElem? (i := 142) (by decide +kernel), List.mem_of_getElem? (i := 616) (by decide +kernel), List.mem_of_getElem? (i := 617) (by decide +kernel)⟩
theorem lw_p23 : lw_okq (⟨"SweetWraps$Pad", "isDigitHere", "()Z"⟩, 6) := ⟨⟨by decide +kernel, by decide +kernel⟩, List.mem_of_getElem? (i := 142) (by decide +kernel), List.mem_of_getElem? (i := 620) (by decide +kernel), List.mem_of_getElem? (i := 621) (by decide +kernel)⟩
theorem lw_p24 : lw_okq (⟨"SweetWraps$Pad", "keepValue", "(I)V"⟩, 6) := ⟨⟨by decide +kernel, by decide +kernel⟩, List.mem_of_getElem? (i := 142) (by decide +kernel), List.mem_of_getElem? (i := 624) (by decide +kernel), List.mem_of_getElem? (i := 625) (by decide +kernel)⟩
theorem lw_p25 : lw_okq (⟨"SweetWraps$Pad", "readNumber", "()Z"⟩, 6) := ⟨⟨by decide +kernel, by decide +kernel⟩, List.mem_of_getElem? (i := 142) (by decide +kernel), List.mem_of_getElem? (i := 628) (by decide +kernel), List.mem_of_getElem? (i := 629) (by decide +kernel)⟩
theorem lw_p26 : lw_okq (⟨"SweetWraps", "carryOrder", "()I"⟩, 6) := ⟨⟨by decide +kernel, by decide +kernel⟩, List.mem_of_getElem? (i := 15) (by decide +kernel), List.mem_of_getElem? (i := 647) (by decide +kernel), List.mem_of_getElem? (i := 648) (by decide +kernel)⟩
theorem lw_p27 : lw_okq (⟨"SweetWrapsModel", "record", "()V"⟩, 11) := ⟨⟨by decide +kernel, by decide +kernel⟩, List.mem_of_getElem? (i := 668) (by decide +kernel), List.mem_of_getElem? (i := 715) (by decide +kernel), List.mem_of_getElem? (i := 716) (by decide +kernel)⟩
theorem lw_p28 : lw_okq (⟨"SweetWrapsModel", "putAside", "()V"⟩, 11) := ⟨⟨by decide +kernel, by decide +kernel⟩, List.mem_of_getElem? (i := 668) (by decide +kernel), List.mem_of_getElem? (i := 723) (by decide +kernel), List.mem_of_getElem? (i := 724) (by decide +kernel)⟩
theorem lw_p29 : lw_okq (⟨"SweetWrapsModel", "heaps", "(III)I"⟩, 11) := ⟨⟨by decide +kernel, by decide +kernel⟩, List.mem_of_getElem? (i := 668) (by decide +kernel), List.mem_of_getElem? (i := 727) (by decide +kernel), List.mem_of_getElem? (i := 728) (by decide +kernel)⟩
theorem lw_p30 : lw_okq (⟨"SweetWrapsModel", "heapFlavour", "(II)I"⟩, 11) := ⟨⟨by decide +kernel, by decide +kernel⟩, List.mem_of_getElem? (i := 668) (by decide +kernel), List.mem_of_getElem? (i := 737) (by decide +kernel), List.mem_of_getElem? (i := 738) (by decide +kernel)⟩
theorem lw_p31 : lw_okq (⟨"SweetWrapsModel", "lane", "(II)I"⟩, 11) := ⟨⟨by decide +kernel, by decide +kernel⟩, List.mem_of_getElem? (i := 668) (by decide +kernel), List.mem_of_getElem? (i := 741) (by decide +kernel), List.mem_of_getElem? (i := 742) (by decide +kernel)⟩
def lw_privs_2 : List (MethodName × Nat) := [(⟨"SweetWraps$Machine", "tinsThatAre", "(Z)I"⟩, 8), (⟨"SweetWraps$Machine", "overLanes", "(I)I"⟩, 8), (⟨"SweetWraps$Machine", "sweetsShipped", "()I"⟩, 8), (⟨"SweetWraps$Machine", "standingLanes", "()I"⟩, 8), (⟨"SweetWraps$Pad", "signHere", "()I"⟩, 6), (⟨"SweetWraps$Pad", "readPart", "(I)Z"⟩, 6), (⟨"SweetWraps$Pad", "readDigit", "()Z"⟩, 6), (⟨"SweetWraps$Pad", "isDigitHere", "()Z"⟩, 6), (⟨"SweetWraps$Pad", "keepValue", "(I)V"⟩, 6), (⟨"SweetWraps$Pad", "readNumber", "()Z"⟩, 6), (⟨"SweetWraps", "carryOrder", "()I"⟩, 6), (⟨"SweetWrapsModel", "record", "()V"⟩, 11), (⟨"SweetWrapsModel", "putAside", "()V"⟩, 11), (⟨"SweetWrapsModel", "heaps", "(III)I"⟩, 11), (⟨"SweetWrapsModel", "heapFlavour", "(II)I"⟩, 11), (⟨"SweetWrapsModel", "lane", "(II)I"⟩, 11)]
theorem lw_r2 : ∀ q ∈ lw_privs_2, lw_okq q := List.forall_mem_cons.mpr ⟨lw_p16, List.forall_mem_cons.mpr ⟨lw_p17, List.forall_mem_cons.mpr ⟨lw_p18, List.forall_mem_cons.mpr ⟨lw_p19, List.forall_mem_cons.mpr ⟨lw_p20, List.forall_mem_cons.mpr ⟨lw_p21, List.forall_mem_cons.mpr ⟨lw_p22, List.forall_mem_cons.mpr ⟨lw_p23, List.forall_mem_cons.mpr ⟨lw_p24, List.forall_mem_cons.mpr ⟨lw_p25, List.forall_mem_cons.mpr ⟨lw_p26, List.forall_mem_cons.mpr ⟨lw_p27, List.forall_mem_cons.mpr ⟨lw_p28, List.forall_mem_cons.mpr ⟨lw_p29, List.forall_mem_cons.mpr ⟨lw_p30, List.forall_mem_cons.mpr ⟨lw_p31, fun _ h => absurd h List.not_mem_nil⟩⟩⟩⟩⟩⟩⟩⟩⟩⟩⟩⟩⟩⟩⟩⟩
theorem lw_p32 : lw_okq (⟨"SweetWrapsModel", "inHopper", "(I)I"⟩, 11) := ⟨⟨by decide +kernel, by decide +kernel⟩, List.mem_of_getElem? (i := 668) (by decide +kernel), List.mem_of_getElem? (i := 745) (by decide +kernel), List.mem_of_getElem? (i := 746) (by decide +kernel)⟩
theorem lw_p33 : lw_okq (⟨"SweetWrapsModel", "heapMany", "(II)I"⟩, 11) := ⟨⟨by decide +kernel, by decide +kernel⟩, List.mem_of_getElem? (i := 668) (by decide +kernel), List.mem_of_getElem? (i := 749) (by decide +kernel), List.mem_of_getElem? (i := 750) (by decide +kernel)⟩
theorem lw_p34 : lw_okq (⟨"SweetWrapsModel", "end", "(I)I"⟩, 11) := ⟨⟨by decide +kernel, by decide +kernel⟩, List.mem_of_getElem? (i := 668) (by decide +kernel), List.mem_of_getElem? (i := 753) (by decide +kernel), List.mem_of_getElem? (i := 754) (by decide +kernel)⟩
theorem lw_p35 : lw_okq (⟨"SweetWrapsModel", "foils", "(II)I"⟩, 11) := ⟨⟨by decide +kernel, by decide +kernel⟩, List.mem_of_getElem? (i := 668) (by decide +kernel), List.mem_of_getElem? (i := 761) (by decide +kernel), List.mem_of_getElem? (i := 762) (by decide +kernel)⟩
theorem lw_p36 : lw_okq (⟨"SweetWrapsModel", "tins", "()I"⟩, 11) := ⟨⟨by decide +kernel, by decide +kernel⟩, List.mem_of_getElem? (i := 668) (by decide +kernel), List.mem_of_getElem? (i := 769) (by decide +kernel), List.mem_of_getElem? (i := 770) (by decide +kernel)⟩
theorem lw_p37 : lw_okq (⟨"SweetWrapsModel", "ships", "(I)I"⟩, 11) := ⟨⟨by decide +kernel, by decide +kernel⟩, List.mem_of_getElem? (i := 668) (by decide +kernel), List.mem_of_getElem? (i := 777) (by decide +kernel), List.mem_of_getElem? (i := 778) (by decide +kernel)⟩
theorem lw_p38 : lw_okq (⟨"SweetWrapsModel", "isShipped", "(I)Z"⟩, 11) := ⟨⟨by decide +kernel, by decide +kernel⟩, List.mem_of_getElem? (i := 668) (by decide +kernel), List.mem_of_getElem? (i := 781) (by decide +kernel), List.mem_of_getElem? (i := 782) (by decide +kernel)⟩
theorem lw_p39 : lw_okq (⟨"SweetWrapsModel", "sweets", "(I)I"⟩, 11) := ⟨⟨by decide +kernel, by decide +kernel⟩, List.mem_of_getElem? (i := 668) (by decide +kernel), List.mem_of_getElem? (i := 785) (by decide +kernel), List.mem_of_getElem? (i := 786) (by decide +kernel)⟩
theorem lw_p40 : lw_okq (⟨"SweetWrapsModel", "inside", "(II)I"⟩, 11) := ⟨⟨by decide +kernel, by decide +kernel⟩, List.mem_of_getElem? (i := 668) (by decide +kernel), List.mem_of_getElem? (i := 789) (by decide +kernel), List.mem_of_getElem? (i := 790) (by decide +kernel)⟩
theorem lw_p41 : lw_okq (⟨"SweetWrapsModel", "keepsApart", "(II)I"⟩, 11) := ⟨⟨by decide +kernel, by decide +kernel⟩, List.mem_of_getElem? (i := 668) (by decide +kernel), List.mem_of_getElem? (i := 797) (by decide +kernel), List.mem_of_getElem? (i := 798) (by decide +kernel)⟩
theorem lw_p42 : lw_okq (⟨"SweetWrapsModel", "areApart", "(II)Z"⟩, 11) := ⟨⟨by decide +kernel, by decide +kernel⟩, List.mem_of_getElem? (i := 668) (by decide +kernel), List.mem_of_getElem? (i := 801) (by decide +kernel), List.mem_of_getElem? (i := 802) (by decide +kernel)⟩
theorem lw_p43 : lw_okq (⟨"SweetWrapsModel", "turn", "(II)V"⟩, 11) := ⟨⟨by decide +kernel, by decide +kernel⟩, List.mem_of_getElem? (i := 668) (by decide +kernel), List.mem_of_getElem? (i := 805) (by decide +kernel), List.mem_of_getElem? (i := 806) (by decide +kernel)⟩
theorem lw_p44 : lw_okq (⟨"SweetWrapsModel", "goes", "(I)I"⟩, 11) := ⟨⟨by decide +kernel, by decide +kernel⟩, List.mem_of_getElem? (i := 668) (by decide +kernel), List.mem_of_getElem? (i := 813) (by decide +kernel), List.mem_of_getElem? (i := 814) (by decide +kernel)⟩
theorem lw_p45 : lw_okq (⟨"SweetWrapsModel", "runs", "(I)I"⟩, 11) := ⟨⟨by decide +kernel, by decide +kernel⟩, List.mem_of_getElem? (i := 668) (by decide +kernel), List.mem_of_getElem? (i := 817) (by decide +kernel), List.mem_of_getElem? (i := 818) (by decide +kernel)⟩
theorem lw_p46 : lw_okq (⟨"SweetWrapsModel", "tick", "()I"⟩, 11) := ⟨⟨by decide +kernel, by decide +kernel⟩, List.mem_of_getElem? (i := 668) (by decide +kernel), List.mem_of_getElem? (i := 821) (by decide +kernel), List.mem_of_getElem? (i := 822) (by decide +kernel)⟩
theorem lw_p47 : lw_okq (⟨"SweetWrapsModel", "reason", "(I)I"⟩, 11) := ⟨⟨by decide +kernel, by decide +kernel⟩, List.mem_of_getElem? (i := 668) (by decide +kernel), List.mem_of_getElem? (i := 825) (by decide +kernel), List.mem_of_getElem? (i := 826) (by decide +kernel)⟩
def lw_privs_3 : List (MethodName × Nat) := [(⟨"SweetWrapsModel", "inHopper", "(I)I"⟩, 11), (⟨"SweetWrapsModel", "heapMany", "(II)I"⟩, 11), (⟨"SweetWrapsModel", "end", "(I)I"⟩, 11), (⟨"SweetWrapsModel", "foils", "(II)I"⟩, 11), (⟨"SweetWrapsModel", "tins", "()I"⟩, 11), (⟨"SweetWrapsModel", "ships", "(I)I"⟩, 11), (⟨"SweetWrapsModel", "isShipped", "(I)Z"⟩, 11), (⟨"SweetWrapsModel", "sweets", "(I)I"⟩, 11), (⟨"SweetWrapsModel", "inside", "(II)I"⟩, 11), (⟨"SweetWrapsModel", "keepsApart", "(II)I"⟩, 11), (⟨"SweetWrapsModel", "areApart", "(II)Z"⟩, 11), (⟨"SweetWrapsModel", "turn", "(II)V"⟩, 11), (⟨"SweetWrapsModel", "goes", "(I)I"⟩, 11), (⟨"SweetWrapsModel", "runs", "(I)I"⟩, 11), (⟨"SweetWrapsModel", "tick", "()I"⟩, 11), (⟨"SweetWrapsModel", "reason", "(I)I"⟩, 11)]
theorem lw_r3 : ∀ q ∈ lw_privs_3, lw_okq q := List.forall_mem_cons.mpr ⟨lw_p32, List.forall_mem_cons.mpr ⟨lw_p33, List.forall_mem_cons.mpr ⟨lw_p34, List.forall_mem_cons.mpr ⟨lw_p35, List.forall_mem_cons.mpr ⟨lw_p36, List.forall_mem_cons.mpr ⟨lw_p37, List.forall_mem_cons.mpr ⟨lw_p38, List.forall_mem_cons.mpr ⟨lw_p39, List.forall_mem_cons.mpr ⟨lw_p40, List.forall_mem_cons.mpr ⟨lw_p41, List.forall_mem_cons.mpr ⟨lw_p42, List.forall_mem_cons.mpr ⟨lw_p43, List.forall_mem_cons.mpr ⟨lw_p44, List.forall_mem_cons.mpr ⟨lw_p45, List.forall_mem_cons.mpr ⟨lw_p46, List.forall_mem_cons.mpr ⟨lw_p47, fun _ h => absurd h List.not_mem_nil⟩⟩⟩⟩⟩⟩⟩⟩⟩⟩⟩⟩⟩⟩⟩⟩
theorem lw_p48 : lw_okq (⟨"SweetWrapsModel", "tinFor", "(I)I"⟩, 11) := ⟨⟨by decide +kernel, by decide +kernel⟩, List.mem_of_getElem? (i := 668) (by decide +kernel), List.mem_of_getElem? (i := 829) (by decide +kernel), List.mem_of_getElem? (i := 830) (by decide +kernel)⟩
theorem lw_p49 : lw_okq (⟨"SweetWrapsModel", "takes", "(II)Z"⟩, 11) := ⟨⟨by decide +kernel, by decide +kernel⟩, List.mem_of_getElem? (i := 668) (by decide +kernel), List.mem_of_getElem? (i := 833) (by decide +kernel), List.mem_of_getElem? (i := 834) (by decide +kernel)⟩
theorem lw_p50 : lw_okq (⟨"SweetWrapsModel", "flavoursOf", "(I)I"⟩, 11) := ⟨⟨by decide +kernel, by decide +kernel⟩, List.mem_of_getElem? (i := 668) (by decide +kernel), List.mem_of_getElem? (i := 837) (by decide +kernel), List.mem_of_getElem? (i := 838) (by decide +kernel)⟩
theorem lw_p51 : lw_okq (⟨"SweetWrapsModel", "tryOnce", "(I)I"⟩, 11) := ⟨⟨by decide +kernel, by decide +kernel⟩, List.mem_of_getElem? (i := 668) (by decide +kernel), List.mem_of_getElem? (i := 841) (by decide +kernel), List.mem_of_getElem? (i := 842) (by decide +kernel)⟩
theorem lw_p52 : lw_okq (⟨"SweetWrapsModel", "takeSweet", "(I)V"⟩, 11) := ⟨⟨by decide +kernel, by decide +kernel⟩, List.mem_of_getElem? (i := 668) (by decide +kernel), List.mem_of_getElem? (i := 845) (by decide +kernel), List.mem_of_getElem? (i := 846) (by decide +kernel)⟩
theorem lw_p53 : lw_okq (⟨"SweetWrapsModel", "taken", "(I)I"⟩, 11) := ⟨⟨by decide +kernel, by decide +kernel⟩, List.mem_of_getElem? (i := 668) (by decide +kernel), List.mem_of_getElem? (i := 861) (by decide +kernel), List.mem_of_getElem? (i := 862) (by decide +kernel)⟩
theorem lw_p54 : lw_okq (⟨"SweetWrapsModel", "inHoppers", "(I)I"⟩, 11) := ⟨⟨by decide +kernel, by decide +kernel⟩, List.mem_of_getElem? (i := 668) (by decide +kernel), List.mem_of_getElem? (i := 873) (by decide +kernel), List.mem_of_getElem? (i := 874) (by decide +kernel)⟩
theorem lw_p55 : lw_okq (⟨"SweetWrapsModel", "inTins", "(II)I"⟩, 11) := ⟨⟨by decide +kernel, by decide +kernel⟩, List.mem_of_getElem? (i := 668) (by decide +kernel), List.mem_of_getElem? (i := 877) (by decide +kernel), List.mem_of_getElem? (i := 878) (by decide +kernel)⟩
theorem lw_p56 : lw_okq (⟨"SweetWrapsModel", "inAll", "(I)I"⟩, 11) := ⟨⟨by decide +kernel, by decide +kernel⟩, List.mem_of_getElem? (i := 668) (by decide +kernel), List.mem_of_getElem? (i := 889) (by decide +kernel), List.mem_of_getElem? (i := 890) (by decide +kernel)⟩
theorem lw_p57 : lw_okq (⟨"SweetWrapsModel", "tinSet", "(I)I"⟩, 11) := ⟨⟨by decide +kernel, by decide +kernel⟩, List.mem_of_getElem? (i := 668) (by decide +kernel), List.mem_of_getElem? (i := 897) (by decide +kernel), List.mem_of_getElem? (i := 898) (by decide +kernel)⟩
theorem lw_p58 : lw_okq (⟨"SweetWrapsModel", "lanes", "(I)I"⟩, 11) := ⟨⟨by decide +kernel, by decide +kernel⟩, List.mem_of_getElem? (i := 668) (by decide +kernel), List.mem_of_getElem? (i := 901) (by decide +kernel), List.mem_of_getElem? (i := 902) (by decide +kernel)⟩
theorem lw_p59 : lw_okq (⟨"SweetWrapsModel", "shippedSweets", "()I"⟩, 11) := ⟨⟨by decide +kernel, by decide +kernel⟩, List.mem_of_getElem? (i := 668) (by decide +kernel), List.mem_of_getElem? (i := 905) (by decide +kernel), List.mem_of_getElem? (i := 906) (by decide +kernel)⟩
theorem lw_p60 : lw_okq (⟨"SweetWrapsModel", "failing", "()I"⟩, 11) := ⟨⟨by decide +kernel, by decide +kernel⟩, List.mem_of_getElem? (i := 668) (by decide +kernel), List.mem_of_getElem? (i := 909) (by decide +kernel), List.mem_of_getElem? (i := 910) (by decide +kernel)⟩
theorem lw_p61 : lw_okq (⟨"SweetWrapsModel", "putBack", "()V"⟩, 11) := ⟨⟨by decide +kernel, by decide +kernel⟩, List.mem_of_getElem? (i := 668) (by decide +kernel), List.mem_of_getElem? (i := 917) (by decide +kernel), List.mem_of_getElem? (i := 918) (by decide +kernel)⟩
theorem lw_p62 : lw_okq (⟨"SweetWrapsModel", "go", "(Z)I"⟩, 11) := ⟨⟨by decide +kernel, by decide +kernel⟩, List.mem_of_getElem? (i := 668) (by decide +kernel), List.mem_of_getElem? (i := 949) (by decide +kernel), List.mem_of_getElem? (i := 950) (by decide +kernel)⟩
theorem lw_p63 : lw_okq (⟨"SweetWrapsModel", "order", "(Z)I"⟩, 11) := ⟨⟨by decide +kernel, by decide +kernel⟩, List.mem_of_getElem? (i := 668) (by decide +kernel), List.mem_of_getElem? (i := 953) (by decide +kernel), List.mem_of_getElem? (i := 954) (by decide +kernel)⟩
def lw_privs_4 : List (MethodName × Nat) := [(⟨"SweetWrapsModel", "tinFor", "(I)I"⟩, 11), (⟨"SweetWrapsModel", "takes", "(II)Z"⟩, 11), (⟨"SweetWrapsModel", "flavoursOf", "(I)I"⟩, 11), (⟨"SweetWrapsModel", "tryOnce", "(I)I"⟩, 11), (⟨"SweetWrapsModel", "takeSweet", "(I)V"⟩, 11), (⟨"SweetWrapsModel", "taken", "(I)I"⟩, 11), (⟨"SweetWrapsModel", "inHoppers", "(I)I"⟩, 11), (⟨"SweetWrapsModel", "inTins", "(II)I"⟩, 11), (⟨"SweetWrapsModel", "inAll", "(I)I"⟩, 11), (⟨"SweetWrapsModel", "tinSet", "(I)I"⟩, 11), (⟨"SweetWrapsModel", "lanes", "(I)I"⟩, 11), (⟨"SweetWrapsModel", "shippedSweets", "()I"⟩, 11), (⟨"SweetWrapsModel", "failing", "()I"⟩, 11), (⟨"SweetWrapsModel", "putBack", "()V"⟩, 11), (⟨"SweetWrapsModel", "go", "(Z)I"⟩, 11), (⟨"SweetWrapsModel", "order", "(Z)I"⟩, 11)]
theorem lw_r4 : ∀ q ∈ lw_privs_4, lw_okq q := List.forall_mem_cons.mpr ⟨lw_p48, List.forall_mem_cons.mpr ⟨lw_p49, List.forall_mem_cons.mpr ⟨lw_p50, List.forall_mem_cons.mpr ⟨lw_p51, List.forall_mem_cons.mpr ⟨lw_p52, List.forall_mem_cons.mpr ⟨lw_p53, List.forall_mem_cons.mpr ⟨lw_p54, List.forall_mem_cons.mpr ⟨lw_p55, List.forall_mem_cons.mpr ⟨lw_p56, List.forall_mem_cons.mpr ⟨lw_p57, List.forall_mem_cons.mpr ⟨lw_p58, List.forall_mem_cons.mpr ⟨lw_p59, List.forall_mem_cons.mpr ⟨lw_p60, List.forall_mem_cons.mpr ⟨lw_p61, List.forall_mem_cons.mpr ⟨lw_p62, List.forall_mem_cons.mpr ⟨lw_p63, fun _ h => absurd h List.not_mem_nil⟩⟩⟩⟩⟩⟩⟩⟩⟩⟩⟩⟩⟩⟩⟩⟩
theorem lw_p64 : lw_okq (⟨"SweetWrapsModel", "isNext", "(I)Z"⟩, 11) := ⟨⟨by decide +kernel, by decide +kernel⟩, List.mem_of_getElem? (i := 668) (by decide +kernel), List.mem_of_getElem? (i := 957) (by decide +kernel), List.mem_of_getElem? (i := 958) (by decide +kernel)⟩
theorem lw_p65 : lw_okq (⟨"SweetWrapsModel", "sign", "(II)I"⟩, 11) := ⟨⟨by decide +kernel, by decide +kernel⟩, List.mem_of_getElem? (i := 668) (by decide +kernel), List.mem_of_getElem? (i := 961) (by decide +kernel), List.mem_of_getElem? (i := 962) (by decide +kernel)⟩
theorem lw_p66 : lw_okq (⟨"SweetWrapsModel", "number", "()I"⟩, 11) := ⟨⟨by decide +kernel, by decide +kernel⟩, List.mem_of_getElem? (i := 668) (by decide +kernel), List.mem_of_getElem? (i := 965) (by decide +kernel), List.mem_of_getElem? (i := 966) (by decide +kernel)⟩
def lw_privs_5 : List (MethodName × Nat) := [(⟨"SweetWrapsModel", "isNext", "(I)Z"⟩, 11), (⟨"SweetWrapsModel", "sign", "(II)I"⟩, 11), (⟨"SweetWrapsModel", "number", "()I"⟩, 11)]
theorem lw_r5 : ∀ q ∈ lw_privs_5, lw_okq q := List.forall_mem_cons.mpr ⟨lw_p64, List.forall_mem_cons.mpr ⟨lw_p65, List.forall_mem_cons.mpr ⟨lw_p66, fun _ h => absurd h List.not_mem_nil⟩⟩⟩
def lw_privs : List (MethodName × Nat) := lw_privs_1 ++ (lw_privs_2 ++ (lw_privs_3 ++ (lw_privs_4 ++ (lw_privs_5))))
def lw_tbl : List Cond := k2_sels lw_privs ++ tables_1
theorem lw_privs_ok : ∀ q ∈ lw_privs, lw_okq q := by
  show ∀ q ∈ lw_privs_1 ++ (lw_privs_2 ++ (lw_privs_3 ++ (lw_privs_4 ++ (lw_privs_5)))), lw_okq q
  exact List.forall_mem_append.mpr ⟨lw_r1, List.forall_mem_append.mpr ⟨lw_r2, List.forall_mem_append.mpr ⟨lw_r3, List.forall_mem_append.mpr ⟨lw_r4, lw_r5⟩⟩⟩⟩
-- ===== end of PART A; then your names; then what follows =====
end
section
def RX0 : String := "SweetWraps$History"
def TX0 : u_T := fun k => match k with
  | 0 => ("SweetWraps$History", "states", "[LSweetWraps$Machine;", true)
  | 1 => ("SweetWraps$History", "prepared", "LSweetWraps$Machine;", false)
  | _ => ("SweetWraps$History", "depth", "I", false)
def tyX0 : Nat → FieldType := fun k => match k with
  | 0 => .array (.object "SweetWraps$Machine")
  | 1 => .object "SweetWraps$Machine"
  | _ => .int
abbrev wsX00 : List Cond := u_ws RX0 TX0 3
theorem nmX0 : ∀ a, a < 3 → ∀ b, b < 3 → a ≠ b → (TX0 a).2.1 ≠ (TX0 b).2.1 := by decide +kernel
theorem tyX0_ok : ∀ k, k < 3 → parseFieldDescriptor (TX0 k).2.2.1 = some (tyX0 k) := by decide +kernel
abbrev cX0_init : ByteArray := prog_2_method_1_code
def yX0_init : MethodName := ⟨RX0, "<init>", "()V"⟩
abbrev cX0_prepare : ByteArray := prog_2_method_2_code
def yX0_prepare : MethodName := ⟨RX0, "prepare", "(LSweetWraps$Machine;)V"⟩
abbrev cX0_record : ByteArray := prog_2_method_3_code
def yX0_record : MethodName := ⟨RX0, "record", "(I)I"⟩
abbrev cX0_dropOldest : ByteArray := prog_2_method_4_code
def yX0_dropOldest : MethodName := ⟨RX0, "dropOldest", "()V"⟩
abbrev cX0_stepBack : ByteArray := prog_2_method_5_code
def yX0_stepBack : MethodName := ⟨RX0, "stepBack", "(LSweetWraps$Machine;)I"⟩
def RX1 : String := "SweetWraps$Lane"
def TX1 : u_T := fun k => match k with
  | 0 => ("SweetWraps$Lane", "flavours", "[I", true)
  | 1 => ("SweetWraps$Lane", "sweets", "[I", true)
  | 2 => ("SweetWraps$Lane", "heaps", "I", false)
  | 3 => ("SweetWraps$Lane", "foilLeft", "I", false)
  | 4 => ("SweetWraps$Lane", "pulls", "I", false)
  | 5 => ("SweetWraps$Lane", "torn", "I", false)
  | 6 => ("SweetWraps$Lane", "wrapped", "I", false)
  | _ => ("SweetWraps$Lane", "lastReason", "I", false)
def tyX1 : Nat → FieldType := fun k => match k with
  | 0 => .array .int
  | 1 => .array .int
  | 2 => .int
  | 3 => .int
  | 4 => .int
  | 5 => .int
  | 6 => .int
  | _ => .int
abbrev wsX10 : List Cond := u_ws RX1 TX1 8
theorem nmX1 : ∀ a, a < 8 → ∀ b, b < 8 → a ≠ b → (TX1 a).2.1 ≠ (TX1 b).2.1 := by decide +kernel
theorem tyX1_ok : ∀ k, k < 8 → parseFieldDescriptor (TX1 k).2.2.1 = some (tyX1 k) := by decide +kernel
abbrev cX1_init : ByteArray := prog_3_method_1_code
def yX1_init : MethodName := ⟨RX1, "<init>", "()V"⟩
abbrev cX1_copyFrom : ByteArray := prog_3_method_2_code
def yX1_copyFrom : MethodName := ⟨RX1, "copyFrom", "(LSweetWraps$Lane;)V"⟩
abbrev cX1_isHeap : ByteArray := prog_3_method_3_code
def yX1_isHeap : MethodName := ⟨RX1, "isHeap", "(I)Z"⟩
abbrev cX1_nextFlavour : ByteArray := prog_3_method_4_code
def yX1_nextFlavour : MethodName := ⟨RX1, "nextFlavour", "()I"⟩
abbrev cX1_sweetsInHopper : ByteArray := prog_3_method_5_code
def yX1_sweetsInHopper : MethodName := ⟨RX1, "sweetsInHopper", "()I"⟩
abbrev cX1_sweetsOf : ByteArray := prog_3_method_6_code
def yX1_sweetsOf : MethodName := ⟨RX1, "sweetsOf", "(I)I"⟩
abbrev cX1_addSweets : ByteArray := prog_3_method_7_code
def yX1_addSweets : MethodName := ⟨RX1, "addSweets", "(II)I"⟩
abbrev cX1_pullTears : ByteArray := prog_3_method_8_code
def yX1_pullTears : MethodName := ⟨RX1, "pullTears", "(II)Z"⟩
abbrev cX1_wrapNext : ByteArray := prog_3_method_9_code
def yX1_wrapNext : MethodName := ⟨RX1, "wrapNext", "()V"⟩
def RX2 : String := "SweetWraps$Machine"
def TX2 : u_T := fun k => match k with
  | 0 => ("SweetWraps$Machine", "settings", "[I", true)
  | 1 => ("SweetWraps$Machine", "lanes", "[LSweetWraps$Lane;", true)
  | 2 => ("SweetWraps$Machine", "tins", "[LSweetWraps$Tin;", true)
  | 3 => ("SweetWraps$Machine", "apartFrom", "[I", true)
  | 4 => ("SweetWraps$Machine", "tinCount", "I", false)
  | 5 => ("SweetWraps$Machine", "ticks", "I", false)
  | 6 => ("SweetWraps$Machine", "foilPulled", "I", false)
  | _ => ("SweetWraps$Machine", "foilWasted", "I", false)
def tyX2 : Nat → FieldType := fun k => match k with
  | 0 => .array .int
  | 1 => .array (.object "SweetWraps$Lane")
  | 2 => .array (.object "SweetWraps$Tin")
  | 3 => .array .int
  | 4 => .int
  | 5 => .int
  | 6 => .int
  | _ => .int
abbrev wsX20 : List Cond := u_ws RX2 TX2 8
theorem nmX2 : ∀ a, a < 8 → ∀ b, b < 8 → a ≠ b → (TX2 a).2.1 ≠ (TX2 b).2.1 := by decide +kernel
theorem tyX2_ok : ∀ k, k < 8 → parseFieldDescriptor (TX2 k).2.2.1 = some (tyX2 k) := by decide +kernel
abbrev cX2_init : ByteArray := prog_4_method_1_code
def yX2_init : MethodName := ⟨RX2, "<init>", "()V"⟩
abbrev cX2_copyFrom : ByteArray := prog_4_method_2_code
def yX2_copyFrom : MethodName := ⟨RX2, "copyFrom", "(LSweetWraps$Machine;)V"⟩
abbrev cX2_changeSetting : ByteArray := prog_4_method_3_code
def yX2_changeSetting : MethodName := ⟨RX2, "changeSetting", "(II)I"⟩
abbrev cX2_addSweets : ByteArray := prog_4_method_4_code
def yX2_addSweets : MethodName := ⟨RX2, "addSweets", "(III)I"⟩
abbrev cX2_addFoil : ByteArray := prog_4_method_5_code
def yX2_addFoil : MethodName := ⟨RX2, "addFoil", "(II)I"⟩
abbrev cX2_addTin : ByteArray := prog_4_method_6_code
def yX2_addTin : MethodName := ⟨RX2, "addTin", "()I"⟩
abbrev cX2_shipTin : ByteArray := prog_4_method_7_code
def yX2_shipTin : MethodName := ⟨RX2, "shipTin", "(I)I"⟩
abbrev cX2_changeApart : ByteArray := prog_4_method_8_code
def yX2_changeApart : MethodName := ⟨RX2, "changeApart", "(II)I"⟩
abbrev cX2_switchApart : ByteArray := prog_4_method_9_code
def yX2_switchApart : MethodName := ⟨RX2, "switchApart", "(II)V"⟩
abbrev cX2_runTicks : ByteArray := prog_4_method_10_code
def yX2_runTicks : MethodName := ⟨RX2, "runTicks", "(I)I"⟩
abbrev cX2_work : ByteArray := prog_4_method_11_code
def yX2_work : MethodName := ⟨RX2, "work", "(I)I"⟩
abbrev cX2_workLane : ByteArray := prog_4_method_12_code
def yX2_workLane : MethodName := ⟨RX2, "workLane", "(LSweetWraps$Lane;)I"⟩
abbrev cX2_foilOfPull : ByteArray := prog_4_method_13_code
def yX2_foilOfPull : MethodName := ⟨RX2, "foilOfPull", "()I"⟩
abbrev cX2_pullsUntilTear : ByteArray := prog_4_method_14_code
def yX2_pullsUntilTear : MethodName := ⟨RX2, "pullsUntilTear", "()I"⟩
abbrev cX2_reasonOf : ByteArray := prog_4_method_15_code
def yX2_reasonOf : MethodName := ⟨RX2, "reasonOf", "(LSweetWraps$Lane;I)I"⟩
abbrev cX2_reasonNow : ByteArray := prog_4_method_16_code
def yX2_reasonNow : MethodName := ⟨RX2, "reasonNow", "(LSweetWraps$Lane;)I"⟩
abbrev cX2_tinFor : ByteArray := prog_4_method_17_code
def yX2_tinFor : MethodName := ⟨RX2, "tinFor", "(I)I"⟩
abbrev cX2_laneFact : ByteArray := prog_4_method_18_code
def yX2_laneFact : MethodName := ⟨RX2, "laneFact", "(II)I"⟩
abbrev cX2_heapFact : ByteArray := prog_4_method_19_code
def yX2_heapFact : MethodName := ⟨RX2, "heapFact", "(III)I"⟩
abbrev cX2_overLanes : ByteArray := prog_4_method_20_code
def yX2_overLanes : MethodName := ⟨RX2, "overLanes", "(I)I"⟩
abbrev cX2_standingLanes : ByteArray := prog_4_method_21_code
def yX2_standingLanes : MethodName := ⟨RX2, "standingLanes", "()I"⟩
abbrev cX2_isTin : ByteArray := prog_4_method_22_code
def yX2_isTin : MethodName := ⟨RX2, "isTin", "(I)Z"⟩
abbrev cX2_isOpen : ByteArray := prog_4_method_23_code
def yX2_isOpen : MethodName := ⟨RX2, "isOpen", "(I)Z"⟩
abbrev cX2_isOpenTinWithBoth : ByteArray := prog_4_method_24_code
def yX2_isOpenTinWithBoth : MethodName := ⟨RX2, "isOpenTinWithBoth", "(II)Z"⟩
abbrev cX2_tinFact : ByteArray := prog_4_method_25_code
def yX2_tinFact : MethodName := ⟨RX2, "tinFact", "(II)I"⟩
abbrev cX2_flavoursTakenBy : ByteArray := prog_4_method_26_code
def yX2_flavoursTakenBy : MethodName := ⟨RX2, "flavoursTakenBy", "(LSweetWraps$Tin;)I"⟩
abbrev cX2_sweetsInTin : ByteArray := prog_4_method_27_code
def yX2_sweetsInTin : MethodName := ⟨RX2, "sweetsInTin", "(II)I"⟩
abbrev cX2_tinsThatAre : ByteArray := prog_4_method_28_code
def yX2_tinsThatAre : MethodName := ⟨RX2, "tinsThatAre", "(Z)I"⟩
abbrev cX2_sweetsShipped : ByteArray := prog_4_method_29_code
def yX2_sweetsShipped : MethodName := ⟨RX2, "sweetsShipped", "()I"⟩
abbrev cX2_tinOfRank : ByteArray := prog_4_method_30_code
def yX2_tinOfRank : MethodName := ⟨RX2, "tinOfRank", "(I)I"⟩
abbrev cX2_openTinsAhead : ByteArray := prog_4_method_31_code
def yX2_openTinsAhead : MethodName := ⟨RX2, "openTinsAhead", "(I)I"⟩
abbrev cX2_flavourFact : ByteArray := prog_4_method_32_code
def yX2_flavourFact : MethodName := ⟨RX2, "flavourFact", "(II)I"⟩
abbrev cX2_sweetsInHoppers : ByteArray := prog_4_method_33_code
def yX2_sweetsInHoppers : MethodName := ⟨RX2, "sweetsInHoppers", "(I)I"⟩
abbrev cX2_sweetsInTins : ByteArray := prog_4_method_34_code
def yX2_sweetsInTins : MethodName := ⟨RX2, "sweetsInTins", "(IZ)I"⟩
abbrev cX2_sweetsInAllTins : ByteArray := prog_4_method_35_code
def yX2_sweetsInAllTins : MethodName := ⟨RX2, "sweetsInAllTins", "(I)I"⟩
abbrev cX2_flavourOfRank : ByteArray := prog_4_method_36_code
def yX2_flavourOfRank : MethodName := ⟨RX2, "flavourOfRank", "(I)I"⟩
abbrev cX2_flavoursAhead : ByteArray := prog_4_method_37_code
def yX2_flavoursAhead : MethodName := ⟨RX2, "flavoursAhead", "(I)I"⟩
abbrev cX2_tinsForHoppers : ByteArray := prog_4_method_38_code
def yX2_tinsForHoppers : MethodName := ⟨RX2, "tinsForHoppers", "()I"⟩
abbrev cX2_number : ByteArray := prog_4_method_39_code
def yX2_number : MethodName := ⟨RX2, "number", "(I)I"⟩
def RX3 : String := "SweetWraps$Pad"
def TX3 : u_T := fun k => match k with
  | 0 => ("SweetWraps$Pad", "signs", "[C", true)
  | 1 => ("SweetWraps$Pad", "values", "[I", true)
  | 2 => ("SweetWraps$Pad", "length", "I", false)
  | 3 => ("SweetWraps$Pad", "place", "I", false)
  | 4 => ("SweetWraps$Pad", "kind", "I", false)
  | _ => ("SweetWraps$Pad", "valueCount", "I", false)
def tyX3 : Nat → FieldType := fun k => match k with
  | 0 => .array .char
  | 1 => .array .int
  | 2 => .int
  | 3 => .int
  | 4 => .int
  | _ => .int
abbrev wsX30 : List Cond := u_ws RX3 TX3 6
theorem nmX3 : ∀ a, a < 6 → ∀ b, b < 6 → a ≠ b → (TX3 a).2.1 ≠ (TX3 b).2.1 := by decide +kernel
theorem tyX3_ok : ∀ k, k < 6 → parseFieldDescriptor (TX3 k).2.2.1 = some (tyX3 k) := by decide +kernel
abbrev cX3_init : ByteArray := prog_5_method_1_code
def yX3_init : MethodName := ⟨RX3, "<init>", "()V"⟩
abbrev cX3_append : ByteArray := prog_5_method_2_code
def yX3_append : MethodName := ⟨RX3, "append", "(J)I"⟩
abbrev cX3_charactersIn : ByteArray := prog_5_method_3_code
def yX3_charactersIn : MethodName := ⟨RX3, "charactersIn", "(J)I"⟩
abbrev cX3_clear : ByteArray := prog_5_method_4_code
def yX3_clear : MethodName := ⟨RX3, "clear", "()I"⟩
abbrev cX3_findFault : ByteArray := prog_5_method_5_code
def yX3_findFault : MethodName := ⟨RX3, "findFault", "()I"⟩
abbrev cX3_startReading : ByteArray := prog_5_method_6_code
def yX3_startReading : MethodName := ⟨RX3, "startReading", "()V"⟩
abbrev cX3_readOrder : ByteArray := prog_5_method_7_code
def yX3_readOrder : MethodName := ⟨RX3, "readOrder", "()Z"⟩
abbrev cX3_shapeOf : ByteArray := prog_5_method_8_code
def yX3_shapeOf : MethodName := ⟨RX3, "shapeOf", "(I)Ljava/lang/String;"⟩
abbrev cX3_readPart : ByteArray := prog_5_method_9_code
def yX3_readPart : MethodName := ⟨RX3, "readPart", "(I)Z"⟩
abbrev cX3_readSign : ByteArray := prog_5_method_10_code
def yX3_readSign : MethodName := ⟨RX3, "readSign", "(I)Z"⟩
abbrev cX3_readDigit : ByteArray := prog_5_method_11_code
def yX3_readDigit : MethodName := ⟨RX3, "readDigit", "()Z"⟩
abbrev cX3_readNumber : ByteArray := prog_5_method_12_code
def yX3_readNumber : MethodName := ⟨RX3, "readNumber", "()Z"⟩
abbrev cX3_keepValue : ByteArray := prog_5_method_13_code
def yX3_keepValue : MethodName := ⟨RX3, "keepValue", "(I)V"⟩
abbrev cX3_isDigitHere : ByteArray := prog_5_method_14_code
def yX3_isDigitHere : MethodName := ⟨RX3, "isDigitHere", "()Z"⟩
abbrev cX3_signHere : ByteArray := prog_5_method_15_code
def yX3_signHere : MethodName := ⟨RX3, "signHere", "()I"⟩
def RX4 : String := "SweetWraps$Tin"
def TX4 : u_T := fun k => match k with
  | 0 => ("SweetWraps$Tin", "sweets", "[I", true)
  | 1 => ("SweetWraps$Tin", "flavours", "I", false)
  | 2 => ("SweetWraps$Tin", "total", "I", false)
  | _ => ("SweetWraps$Tin", "shipped", "Z", false)
def tyX4 : Nat → FieldType := fun k => match k with
  | 0 => .array .int
  | 1 => .int
  | 2 => .int
  | _ => .boolean
abbrev wsX40 : List Cond := u_ws RX4 TX4 4
theorem nmX4 : ∀ a, a < 4 → ∀ b, b < 4 → a ≠ b → (TX4 a).2.1 ≠ (TX4 b).2.1 := by decide +kernel
theorem tyX4_ok : ∀ k, k < 4 → parseFieldDescriptor (TX4 k).2.2.1 = some (tyX4 k) := by decide +kernel
abbrev cX4_init : ByteArray := prog_6_method_1_code
def yX4_init : MethodName := ⟨RX4, "<init>", "()V"⟩
abbrev cX4_copyFrom : ByteArray := prog_6_method_2_code
def yX4_copyFrom : MethodName := ⟨RX4, "copyFrom", "(LSweetWraps$Tin;)V"⟩
abbrev cX4_hasRoomFor : ByteArray := prog_6_method_3_code
def yX4_hasRoomFor : MethodName := ⟨RX4, "hasRoomFor", "(II)Z"⟩
abbrev cX4_add : ByteArray := prog_6_method_4_code
def yX4_add : MethodName := ⟨RX4, "add", "(I)V"⟩
def RX5 : String := "SweetWraps"
def TX5 : u_T := fun k => match k with
  | 0 => ("SweetWraps", "now", "LSweetWraps$Machine;", true)
  | 1 => ("SweetWraps", "trial", "LSweetWraps$Machine;", true)
  | 2 => ("SweetWraps", "history", "LSweetWraps$History;", true)
  | 3 => ("SweetWraps", "slots", "[LSweetWraps$Machine;", true)
  | 4 => ("SweetWraps", "saved", "[Z", true)
  | _ => ("SweetWraps", "pad", "LSweetWraps$Pad;", true)
def tyX5 : Nat → FieldType := fun k => match k with
  | 0 => .object "SweetWraps$Machine"
  | 1 => .object "SweetWraps$Machine"
  | 2 => .object "SweetWraps$History"
  | 3 => .array (.object "SweetWraps$Machine")
  | 4 => .array .boolean
  | _ => .object "SweetWraps$Pad"
abbrev wsX50 : List Cond := u_ws RX5 TX5 6
theorem nmX5 : ∀ a, a < 6 → ∀ b, b < 6 → a ≠ b → (TX5 a).2.1 ≠ (TX5 b).2.1 := by decide +kernel
theorem tyX5_ok : ∀ k, k < 6 → parseFieldDescriptor (TX5 k).2.2.1 = some (tyX5 k) := by decide +kernel
abbrev cX5_init : ByteArray := prog_1_method_1_code
def yX5_init : MethodName := ⟨RX5, "<init>", "()V"⟩
abbrev cX5_set : ByteArray := prog_1_method_2_code
def yX5_set : MethodName := ⟨RX5, "set", "(II)I"⟩
abbrev cX5_heap : ByteArray := prog_1_method_3_code
def yX5_heap : MethodName := ⟨RX5, "heap", "(III)I"⟩
abbrev cX5_foil : ByteArray := prog_1_method_4_code
def yX5_foil : MethodName := ⟨RX5, "foil", "(II)I"⟩
abbrev cX5_tin : ByteArray := prog_1_method_5_code
def yX5_tin : MethodName := ⟨RX5, "tin", "()I"⟩
abbrev cX5_ship : ByteArray := prog_1_method_6_code
def yX5_ship : MethodName := ⟨RX5, "ship", "(I)I"⟩
abbrev cX5_apart : ByteArray := prog_1_method_7_code
def yX5_apart : MethodName := ⟨RX5, "apart", "(II)I"⟩
abbrev cX5_run : ByteArray := prog_1_method_8_code
def yX5_run : MethodName := ⟨RX5, "run", "(I)I"⟩
abbrev cX5_of : ByteArray := prog_1_method_9_code
def yX5_of : MethodName := ⟨RX5, "of", "(II)I"⟩
abbrev cX5_ofHeap : ByteArray := prog_1_method_10_code
def yX5_ofHeap : MethodName := ⟨RX5, "ofHeap", "(III)I"⟩
abbrev cX5_ofTin : ByteArray := prog_1_method_11_code
def yX5_ofTin : MethodName := ⟨RX5, "ofTin", "(II)I"⟩
abbrev cX5_inTin : ByteArray := prog_1_method_12_code
def yX5_inTin : MethodName := ⟨RX5, "inTin", "(II)I"⟩
abbrev cX5_flavour : ByteArray := prog_1_method_13_code
def yX5_flavour : MethodName := ⟨RX5, "flavour", "(II)I"⟩
abbrev cX5_byRoom : ByteArray := prog_1_method_14_code
def yX5_byRoom : MethodName := ⟨RX5, "byRoom", "(I)I"⟩
abbrev cX5_byCount : ByteArray := prog_1_method_15_code
def yX5_byCount : MethodName := ⟨RX5, "byCount", "(I)I"⟩
abbrev cX5_count : ByteArray := prog_1_method_16_code
def yX5_count : MethodName := ⟨RX5, "count", "(I)I"⟩
abbrev cX5_stands : ByteArray := prog_1_method_17_code
def yX5_stands : MethodName := ⟨RX5, "stands", "(II)I"⟩
abbrev cX5_bestSpeed : ByteArray := prog_1_method_18_code
def yX5_bestSpeed : MethodName := ⟨RX5, "bestSpeed", "(II)I"⟩
abbrev cX5_ifApart : ByteArray := prog_1_method_19_code
def yX5_ifApart : MethodName := ⟨RX5, "ifApart", "(III)I"⟩
abbrev cX5_tinsFor : ByteArray := prog_1_method_20_code
def yX5_tinsFor : MethodName := ⟨RX5, "tinsFor", "()I"⟩
abbrev cX5_put : ByteArray := prog_1_method_21_code
def yX5_put : MethodName := ⟨RX5, "put", "(J)I"⟩
abbrev cX5_wipe : ByteArray := prog_1_method_22_code
def yX5_wipe : MethodName := ⟨RX5, "wipe", "()I"⟩
abbrev cX5_fault : ByteArray := prog_1_method_23_code
def yX5_fault : MethodName := ⟨RX5, "fault", "()I"⟩
abbrev cX5_carryOut : ByteArray := prog_1_method_24_code
def yX5_carryOut : MethodName := ⟨RX5, "carryOut", "()I"⟩
abbrev cX5_carryOrder : ByteArray := prog_1_method_25_code
def yX5_carryOrder : MethodName := ⟨RX5, "carryOrder", "()I"⟩
abbrev cX5_undo : ByteArray := prog_1_method_26_code
def yX5_undo : MethodName := ⟨RX5, "undo", "()I"⟩
abbrev cX5_save : ByteArray := prog_1_method_27_code
def yX5_save : MethodName := ⟨RX5, "save", "(I)I"⟩
abbrev cX5_restore : ByteArray := prog_1_method_28_code
def yX5_restore : MethodName := ⟨RX5, "restore", "(I)I"⟩
abbrev cX5_isIndex : ByteArray := prog_1_method_29_code
def yX5_isIndex : MethodName := ⟨RX5, "isIndex", "(II)Z"⟩
abbrev cX5_isBetween : ByteArray := prog_1_method_30_code
def yX5_isBetween : MethodName := ⟨RX5, "isBetween", "(III)Z"⟩
abbrev cX5_copyNumbers : ByteArray := prog_1_method_31_code
def yX5_copyNumbers : MethodName := ⟨RX5, "copyNumbers", "([I[I)V"⟩
def RX6 : String := "SweetWrapsModel"
def TX6 : u_T := fun k => match k with
  | 0 => ("SweetWrapsModel", "s", "[I", true)
  | 1 => ("SweetWrapsModel", "aside", "[I", true)
  | 2 => ("SweetWrapsModel", "before", "[I", true)
  | 3 => ("SweetWrapsModel", "known", "I", false)
  | 4 => ("SweetWrapsModel", "kept", "[I", true)
  | 5 => ("SweetWrapsModel", "isKept", "[Z", true)
  | 6 => ("SweetWrapsModel", "pad", "[I", true)
  | 7 => ("SweetWrapsModel", "length", "I", false)
  | 8 => ("SweetWrapsModel", "stood", "[I", true)
  | 9 => ("SweetWrapsModel", "place", "I", false)
  | _ => ("SweetWrapsModel", "isWrong", "Z", false)
def tyX6 : Nat → FieldType := fun k => match k with
  | 0 => .array .int
  | 1 => .array .int
  | 2 => .array .int
  | 3 => .int
  | 4 => .array .int
  | 5 => .array .boolean
  | 6 => .array .int
  | 7 => .int
  | 8 => .array .int
  | 9 => .int
  | _ => .boolean
abbrev wsX60 : List Cond := u_ws RX6 TX6 11
theorem nmX6 : ∀ a, a < 11 → ∀ b, b < 11 → a ≠ b → (TX6 a).2.1 ≠ (TX6 b).2.1 := by decide +kernel
theorem tyX6_ok : ∀ k, k < 11 → parseFieldDescriptor (TX6 k).2.2.1 = some (tyX6 k) := by decide +kernel
abbrev cX6_init : ByteArray := prog_8_method_1_code
def yX6_init : MethodName := ⟨RX6, "<init>", "()V"⟩
abbrev cX6_in : ByteArray := prog_8_method_3_code
def yX6_in : MethodName := ⟨RX6, "in", "(III)Z"⟩
abbrev cX6_putAside : ByteArray := prog_8_method_4_code
def yX6_putAside : MethodName := ⟨RX6, "putAside", "()V"⟩
abbrev cX6_putBack : ByteArray := prog_8_method_5_code
def yX6_putBack : MethodName := ⟨RX6, "putBack", "()V"⟩
abbrev cX6_record : ByteArray := prog_8_method_6_code
def yX6_record : MethodName := ⟨RX6, "record", "()V"⟩
abbrev cX6_isLane : ByteArray := prog_8_method_7_code
def yX6_isLane : MethodName := ⟨RX6, "isLane", "(I)Z"⟩
abbrev cX6_isFlavour : ByteArray := prog_8_method_8_code
def yX6_isFlavour : MethodName := ⟨RX6, "isFlavour", "(I)Z"⟩
abbrev cX6_lane : ByteArray := prog_8_method_9_code
def yX6_lane : MethodName := ⟨RX6, "lane", "(II)I"⟩
abbrev cX6_heapFlavour : ByteArray := prog_8_method_10_code
def yX6_heapFlavour : MethodName := ⟨RX6, "heapFlavour", "(II)I"⟩
abbrev cX6_heapMany : ByteArray := prog_8_method_11_code
def yX6_heapMany : MethodName := ⟨RX6, "heapMany", "(II)I"⟩
abbrev cX6_inHopper : ByteArray := prog_8_method_12_code
def yX6_inHopper : MethodName := ⟨RX6, "inHopper", "(I)I"⟩
abbrev cX6_takeSweet : ByteArray := prog_8_method_13_code
def yX6_takeSweet : MethodName := ⟨RX6, "takeSweet", "(I)V"⟩
abbrev cX6_inside : ByteArray := prog_8_method_14_code
def yX6_inside : MethodName := ⟨RX6, "inside", "(II)I"⟩
abbrev cX6_isShipped : ByteArray := prog_8_method_15_code
def yX6_isShipped : MethodName := ⟨RX6, "isShipped", "(I)Z"⟩
abbrev cX6_sweets : ByteArray := prog_8_method_16_code
def yX6_sweets : MethodName := ⟨RX6, "sweets", "(I)I"⟩
abbrev cX6_flavoursOf : ByteArray := prog_8_method_17_code
def yX6_flavoursOf : MethodName := ⟨RX6, "flavoursOf", "(I)I"⟩
abbrev cX6_takes : ByteArray := prog_8_method_18_code
def yX6_takes : MethodName := ⟨RX6, "takes", "(II)Z"⟩
abbrev cX6_tinFor : ByteArray := prog_8_method_19_code
def yX6_tinFor : MethodName := ⟨RX6, "tinFor", "(I)I"⟩
abbrev cX6_reason : ByteArray := prog_8_method_20_code
def yX6_reason : MethodName := ⟨RX6, "reason", "(I)I"⟩
abbrev cX6_tryOnce : ByteArray := prog_8_method_21_code
def yX6_tryOnce : MethodName := ⟨RX6, "tryOnce", "(I)I"⟩
abbrev cX6_tick : ByteArray := prog_8_method_22_code
def yX6_tick : MethodName := ⟨RX6, "tick", "()I"⟩
abbrev cX6_runs : ByteArray := prog_8_method_23_code
def yX6_runs : MethodName := ⟨RX6, "runs", "(I)I"⟩
abbrev cX6_heaps : ByteArray := prog_8_method_24_code
def yX6_heaps : MethodName := ⟨RX6, "heaps", "(III)I"⟩
abbrev cX6_foils : ByteArray := prog_8_method_25_code
def yX6_foils : MethodName := ⟨RX6, "foils", "(II)I"⟩
abbrev cX6_tins : ByteArray := prog_8_method_26_code
def yX6_tins : MethodName := ⟨RX6, "tins", "()I"⟩
abbrev cX6_ships : ByteArray := prog_8_method_27_code
def yX6_ships : MethodName := ⟨RX6, "ships", "(I)I"⟩
abbrev cX6_areApart : ByteArray := prog_8_method_28_code
def yX6_areApart : MethodName := ⟨RX6, "areApart", "(II)Z"⟩
abbrev cX6_turn : ByteArray := prog_8_method_29_code
def yX6_turn : MethodName := ⟨RX6, "turn", "(II)V"⟩
abbrev cX6_keepsApart : ByteArray := prog_8_method_30_code
def yX6_keepsApart : MethodName := ⟨RX6, "keepsApart", "(II)I"⟩
abbrev cX6_goes : ByteArray := prog_8_method_31_code
def yX6_goes : MethodName := ⟨RX6, "goes", "(I)I"⟩
abbrev cX6_end : ByteArray := prog_8_method_32_code
def yX6_end : MethodName := ⟨RX6, "end", "(I)I"⟩
abbrev cX6_set : ByteArray := prog_8_method_33_code
def yX6_set : MethodName := ⟨RX6, "set", "(II)I"⟩
abbrev cX6_heap : ByteArray := prog_8_method_34_code
def yX6_heap : MethodName := ⟨RX6, "heap", "(III)I"⟩
abbrev cX6_foil : ByteArray := prog_8_method_35_code
def yX6_foil : MethodName := ⟨RX6, "foil", "(II)I"⟩
abbrev cX6_tin : ByteArray := prog_8_method_36_code
def yX6_tin : MethodName := ⟨RX6, "tin", "()I"⟩
abbrev cX6_ship : ByteArray := prog_8_method_37_code
def yX6_ship : MethodName := ⟨RX6, "ship", "(I)I"⟩
abbrev cX6_apart : ByteArray := prog_8_method_38_code
def yX6_apart : MethodName := ⟨RX6, "apart", "(II)I"⟩
abbrev cX6_run : ByteArray := prog_8_method_39_code
def yX6_run : MethodName := ⟨RX6, "run", "(I)I"⟩
abbrev cX6_of : ByteArray := prog_8_method_40_code
def yX6_of : MethodName := ⟨RX6, "of", "(II)I"⟩
abbrev cX6_ofHeap : ByteArray := prog_8_method_41_code
def yX6_ofHeap : MethodName := ⟨RX6, "ofHeap", "(III)I"⟩
abbrev cX6_taken : ByteArray := prog_8_method_42_code
def yX6_taken : MethodName := ⟨RX6, "taken", "(I)I"⟩
abbrev cX6_ofTin : ByteArray := prog_8_method_43_code
def yX6_ofTin : MethodName := ⟨RX6, "ofTin", "(II)I"⟩
abbrev cX6_inTin : ByteArray := prog_8_method_44_code
def yX6_inTin : MethodName := ⟨RX6, "inTin", "(II)I"⟩
abbrev cX6_inHoppers : ByteArray := prog_8_method_45_code
def yX6_inHoppers : MethodName := ⟨RX6, "inHoppers", "(I)I"⟩
abbrev cX6_inTins : ByteArray := prog_8_method_46_code
def yX6_inTins : MethodName := ⟨RX6, "inTins", "(II)I"⟩
abbrev cX6_flavour : ByteArray := prog_8_method_47_code
def yX6_flavour : MethodName := ⟨RX6, "flavour", "(II)I"⟩
abbrev cX6_byRoom : ByteArray := prog_8_method_48_code
def yX6_byRoom : MethodName := ⟨RX6, "byRoom", "(I)I"⟩
abbrev cX6_inAll : ByteArray := prog_8_method_49_code
def yX6_inAll : MethodName := ⟨RX6, "inAll", "(I)I"⟩
abbrev cX6_byCount : ByteArray := prog_8_method_50_code
def yX6_byCount : MethodName := ⟨RX6, "byCount", "(I)I"⟩
abbrev cX6_tinSet : ByteArray := prog_8_method_51_code
def yX6_tinSet : MethodName := ⟨RX6, "tinSet", "(I)I"⟩
abbrev cX6_lanes : ByteArray := prog_8_method_52_code
def yX6_lanes : MethodName := ⟨RX6, "lanes", "(I)I"⟩
abbrev cX6_shippedSweets : ByteArray := prog_8_method_53_code
def yX6_shippedSweets : MethodName := ⟨RX6, "shippedSweets", "()I"⟩
abbrev cX6_failing : ByteArray := prog_8_method_54_code
def yX6_failing : MethodName := ⟨RX6, "failing", "()I"⟩
abbrev cX6_count : ByteArray := prog_8_method_55_code
def yX6_count : MethodName := ⟨RX6, "count", "(I)I"⟩
abbrev cX6_stands : ByteArray := prog_8_method_56_code
def yX6_stands : MethodName := ⟨RX6, "stands", "(II)I"⟩
abbrev cX6_bestSpeed : ByteArray := prog_8_method_57_code
def yX6_bestSpeed : MethodName := ⟨RX6, "bestSpeed", "(II)I"⟩
abbrev cX6_ifApart : ByteArray := prog_8_method_58_code
def yX6_ifApart : MethodName := ⟨RX6, "ifApart", "(III)I"⟩
abbrev cX6_tinsFor : ByteArray := prog_8_method_59_code
def yX6_tinsFor : MethodName := ⟨RX6, "tinsFor", "()I"⟩
abbrev cX6_code : ByteArray := prog_8_method_60_code
def yX6_code : MethodName := ⟨RX6, "code", "(JI)I"⟩
abbrev cX6_put : ByteArray := prog_8_method_61_code
def yX6_put : MethodName := ⟨RX6, "put", "(J)I"⟩
abbrev cX6_wipe : ByteArray := prog_8_method_62_code
def yX6_wipe : MethodName := ⟨RX6, "wipe", "()I"⟩
abbrev cX6_sign : ByteArray := prog_8_method_63_code
def yX6_sign : MethodName := ⟨RX6, "sign", "(II)I"⟩
abbrev cX6_number : ByteArray := prog_8_method_64_code
def yX6_number : MethodName := ⟨RX6, "number", "()I"⟩
abbrev cX6_isNext : ByteArray := prog_8_method_65_code
def yX6_isNext : MethodName := ⟨RX6, "isNext", "(I)Z"⟩
abbrev cX6_order : ByteArray := prog_8_method_66_code
def yX6_order : MethodName := ⟨RX6, "order", "(Z)I"⟩
abbrev cX6_go : ByteArray := prog_8_method_67_code
def yX6_go : MethodName := ⟨RX6, "go", "(Z)I"⟩
abbrev cX6_fault : ByteArray := prog_8_method_68_code
def yX6_fault : MethodName := ⟨RX6, "fault", "()I"⟩
abbrev cX6_carryOut : ByteArray := prog_8_method_69_code
def yX6_carryOut : MethodName := ⟨RX6, "carryOut", "()I"⟩
abbrev cX6_undo : ByteArray := prog_8_method_70_code
def yX6_undo : MethodName := ⟨RX6, "undo", "()I"⟩
abbrev cX6_save : ByteArray := prog_8_method_71_code
def yX6_save : MethodName := ⟨RX6, "save", "(I)I"⟩
abbrev cX6_restore : ByteArray := prog_8_method_72_code
def yX6_restore : MethodName := ⟨RX6, "restore", "(I)I"⟩
def RJ9 : String := "java/lang/Math"
def TJ9 : u_T := fun k => match k with
  | _ => ("", "", "", false)
def tyJ9 : Nat → FieldType := fun k => match k with
  | _ => .int
abbrev wsJ90 : List Cond := u_ws RJ9 TJ9 0
theorem nmJ9 : ∀ a, a < 0 → ∀ b, b < 0 → a ≠ b → (TJ9 a).2.1 ≠ (TJ9 b).2.1 := by decide +kernel
theorem tyJ9_ok : ∀ k, k < 0 → parseFieldDescriptor (TJ9 k).2.2.1 = some (tyJ9 k) := by decide +kernel
abbrev cJ9_max_7cf53 : ByteArray := prog_9_method_65_code
def yJ9_max_7cf53 : MethodName := ⟨RJ9, "max", "(II)I"⟩
abbrev cJ9_min_7cf53 : ByteArray := prog_9_method_69_code
def yJ9_min_7cf53 : MethodName := ⟨RJ9, "min", "(II)I"⟩
def RJ0 : String := "java/lang/String"
def TJ0 : u_T := fun k => match k with
  | _ => ("", "", "", false)
def tyJ0 : Nat → FieldType := fun k => match k with
  | _ => .int
abbrev wsJ00 : List Cond := u_ws RJ0 TJ0 0
theorem nmJ0 : ∀ a, a < 0 → ∀ b, b < 0 → a ≠ b → (TJ0 a).2.1 ≠ (TJ0 b).2.1 := by decide +kernel
theorem tyJ0_ok : ∀ k, k < 0 → parseFieldDescriptor (TJ0 k).2.2.1 = some (tyJ0 k) := by decide +kernel
abbrev cJ0_length_8abf5 : ByteArray := prog_10_method_54_code
def yJ0_length_8abf5 : MethodName := ⟨RJ0, "length", "()I"⟩
abbrev cJ0_isEmpty_aae02 : ByteArray := prog_10_method_55_code
def yJ0_isEmpty_aae02 : MethodName := ⟨RJ0, "isEmpty", "()Z"⟩
abbrev cJ0_charAt_5068e : ByteArray := prog_10_method_56_code
def yJ0_charAt_5068e : MethodName := ⟨RJ0, "charAt", "(I)C"⟩
abbrev cJ0_coder_7d493 : ByteArray := prog_10_method_152_code
def yJ0_coder_7d493 : MethodName := ⟨RJ0, "coder", "()B"⟩
abbrev cJ0_isLatin1_aae02 : ByteArray := prog_10_method_154_code
def yJ0_isLatin1_aae02 : MethodName := ⟨RJ0, "isLatin1", "()Z"⟩
abbrev cJ0_checkIndex_df160 : ByteArray := prog_10_method_155_code
def yJ0_checkIndex_df160 : MethodName := ⟨RJ0, "checkIndex", "(II)V"⟩
def RJ1 : String := "java/lang/StringLatin1"
def TJ1 : u_T := fun k => match k with
  | _ => ("", "", "", false)
def tyJ1 : Nat → FieldType := fun k => match k with
  | _ => .int
abbrev wsJ10 : List Cond := u_ws RJ1 TJ1 0
theorem nmJ1 : ∀ a, a < 0 → ∀ b, b < 0 → a ≠ b → (TJ1 a).2.1 ≠ (TJ1 b).2.1 := by decide +kernel
theorem tyJ1_ok : ∀ k, k < 0 → parseFieldDescriptor (TJ1 k).2.2.1 = some (tyJ1 k) := by decide +kernel
abbrev cJ1_charAt_3b067 : ByteArray := prog_11_method_2_code
def yJ1_charAt_3b067 : MethodName := ⟨RJ1, "charAt", "([BI)C"⟩
def RJ2 : String := "java/lang/StringUTF16"
def TJ2 : u_T := fun k => match k with
  | _ => ("", "", "", false)
def tyJ2 : Nat → FieldType := fun k => match k with
  | _ => .int
abbrev wsJ20 : List Cond := u_ws RJ2 TJ2 0
theorem nmJ2 : ∀ a, a < 0 → ∀ b, b < 0 → a ≠ b → (TJ2 a).2.1 ≠ (TJ2 b).2.1 := by decide +kernel
theorem tyJ2_ok : ∀ k, k < 0 → parseFieldDescriptor (TJ2 k).2.2.1 = some (tyJ2 k) := by decide +kernel
abbrev cJ2_getChar_3b067 : ByteArray := prog_12_method_5_code
def yJ2_getChar_3b067 : MethodName := ⟨RJ2, "getChar", "([BI)C"⟩
abbrev cJ2_length_9d52b : ByteArray := prog_12_method_6_code
def yJ2_length_9d52b : MethodName := ⟨RJ2, "length", "([B)I"⟩
abbrev cJ2_charAt_3b067 : ByteArray := prog_12_method_83_code
def yJ2_charAt_3b067 : MethodName := ⟨RJ2, "charAt", "([BI)C"⟩
abbrev cJ2_checkIndex_2214a : ByteArray := prog_12_method_91_code
def yJ2_checkIndex_2214a : MethodName := ⟨RJ2, "checkIndex", "(I[B)V"⟩
def RJ10 : String := "java/lang/System"
def TJ10 : u_T := fun k => match k with
  | _ => ("", "", "", false)
def tyJ10 : Nat → FieldType := fun k => match k with
  | _ => .int
abbrev wsJ100 : List Cond := u_ws RJ10 TJ10 0
theorem nmJ10 : ∀ a, a < 0 → ∀ b, b < 0 → a ≠ b → (TJ10 a).2.1 ≠ (TJ10 b).2.1 := by decide +kernel
theorem tyJ10_ok : ∀ k, k < 0 → parseFieldDescriptor (TJ10 k).2.2.1 = some (tyJ10 k) := by decide +kernel
def RJ3 : String := "jdk/internal/util/Preconditions"
def TJ3 : u_T := fun k => match k with
  | _ => ("", "", "", false)
def tyJ3 : Nat → FieldType := fun k => match k with
  | _ => .int
abbrev wsJ30 : List Cond := u_ws RJ3 TJ3 0
theorem nmJ3 : ∀ a, a < 0 → ∀ b, b < 0 → a ≠ b → (TJ3 a).2.1 ≠ (TJ3 b).2.1 := by decide +kernel
theorem tyJ3_ok : ∀ k, k < 0 → parseFieldDescriptor (TJ3 k).2.2.1 = some (tyJ3 k) := by decide +kernel
abbrev cJ3_checkIndex_8e157 : ByteArray := prog_14_method_11_code
def yJ3_checkIndex_8e157 : MethodName := ⟨RJ3, "checkIndex", "(IILjava/util/function/BiFunction;)I"⟩
def RL : String := "SweetWrapsLaw"
abbrev cL_law : ByteArray := code
def yL_law : MethodName := ⟨RL, "law", "([I)Z"⟩
abbrev vwCl : List vw_C := [(RX0, TX0, 3), (RX1, TX1, 8), (RX2, TX2, 8), (RX3, TX3, 6), (RX4, TX4, 4), (RX5, TX5, 6), (RX6, TX6, 11)]
end
section
/-- the words of the tables that stay true as the machine warms -/
def BIG : List Cond := lw_tbl.filter goodWord
theorem big_good : ∀ w ∈ BIG, w ∈ lw_tbl ∧ goodWord w = true := fun w h => List.mem_filter.mp h
theorem big_in1 (i : Nat) (w : Cond) (h : tables_1_1[i]? = some w) (g : goodWord w = true) : w ∈ BIG := List.mem_filter.mpr ⟨List.mem_append_right _ (show w ∈ tables_1 from List.mem_append_left _ (List.mem_of_getElem? h)), g⟩
theorem big_in2 (i : Nat) (w : Cond) (h : tables_1_2[i]? = some w) (g : goodWord w = true) : w ∈ BIG := List.mem_filter.mpr ⟨List.mem_append_right _ (show w ∈ tables_1 from List.mem_append_right _ (List.mem_append_left _ (List.mem_of_getElem? h))), g⟩
theorem big_in3 (i : Nat) (w : Cond) (h : tables_1_3[i]? = some w) (g : goodWord w = true) : w ∈ BIG := List.mem_filter.mpr ⟨List.mem_append_right _ (show w ∈ tables_1 from List.mem_append_right _ (List.mem_append_right _ (List.mem_append_left _ (List.mem_of_getElem? h)))), g⟩
theorem big_in4 (i : Nat) (w : Cond) (h : tables_1_4[i]? = some w) (g : goodWord w = true) : w ∈ BIG := List.mem_filter.mpr ⟨List.mem_append_right _ (show w ∈ tables_1 from List.mem_append_right _ (List.mem_append_right _ (List.mem_append_right _ (List.mem_append_left _ (List.mem_of_getElem? h))))), g⟩
theorem big_in5 (i : Nat) (w : Cond) (h : tables_1_5[i]? = some w) (g : goodWord w = true) : w ∈ BIG := List.mem_filter.mpr ⟨List.mem_append_right _ (show w ∈ tables_1 from List.mem_append_right _ (List.mem_append_right _ (List.mem_append_right _ (List.mem_append_right _ (List.mem_of_getElem? h))))), g⟩
theorem big_sel (i : Nat) (q : MethodName × Nat) (h : lw_privs[i]? = some q) : Cond.selects q.1.cls q.1 q.1 ∈ BIG := List.mem_filter.mpr ⟨List.mem_append_left _ (List.mem_map.mpr ⟨q, List.mem_of_getElem? h, rfl⟩), rfl⟩
theorem big_GoodIn : GoodIn BIG BIG := fun w h => ⟨h, good_of_word (big_good w h).2⟩
theorem bw_0 : (Cond.initialized "SweetWrapsLaw") ∈ BIG := big_in1 0 _ rfl rfl
theorem bw_1 : (Cond.initialized "SweetWraps") ∈ BIG := big_in1 1 _ rfl rfl
theorem bw_2 : (Cond.initialized "SweetWraps$Machine") ∈ BIG := big_in1 2 _ rfl rfl
theorem bw_3 : (Cond.initialized "SweetWraps$Lane") ∈ BIG := big_in1 3 _ rfl rfl
theorem bw_4 : (Cond.initialized "SweetWraps$Tin") ∈ BIG := big_in1 4 _ rfl rfl
theorem bw_5 : (Cond.initialized "SweetWraps$History") ∈ BIG := big_in1 5 _ rfl rfl
theorem bw_6 : (Cond.initialized "SweetWraps$Pad") ∈ BIG := big_in1 6 _ rfl rfl
theorem bw_7 : (Cond.initialized "SweetWrapsModel") ∈ BIG := big_in1 7 _ rfl rfl
theorem bw_8 : (Cond.initialized "java/lang/Math") ∈ BIG := big_in1 8 _ rfl rfl
theorem bw_9 : (Cond.initialized "java/lang/System") ∈ BIG := big_in1 9 _ rfl rfl
theorem bw_10 : (Cond.initialized "java/lang/String") ∈ BIG := big_in1 10 _ rfl rfl
theorem bw_11 : (Cond.initialized "java/lang/StringLatin1") ∈ BIG := big_in1 11 _ rfl rfl
theorem bw_12 : (Cond.initialized "jdk/internal/util/Preconditions") ∈ BIG := big_in1 12 _ rfl rfl
theorem bw_13 : (Cond.initialized "java/lang/StringUTF16") ∈ BIG := big_in1 13 _ rfl rfl
theorem bw_14 : (Cond.classLink "SweetWrapsLaw" (7 : Nat) "SweetWraps") ∈ BIG := big_in1 14 _ rfl rfl
theorem bw_15 : (Cond.instantiable "SweetWraps" (6 : Nat)) ∈ BIG := big_in1 15 _ rfl rfl
theorem bw_16 : (Cond.methodLink "SweetWrapsLaw" (9 : Nat) ({ cls := "SweetWraps", name := "<init>", desc := "()V" } : MethodName)) ∈ BIG := big_in1 16 _ rfl rfl
theorem bw_17 : (Cond.instanceMethod ({ cls := "SweetWraps", name := "<init>", desc := "()V" } : MethodName)) ∈ BIG := big_in1 17 _ rfl rfl
theorem bw_18 : (Cond.code ({ cls := "SweetWraps", name := "<init>", desc := "()V" } : MethodName) prog_1_method_1_code (2 : Nat) (Option.none : Option ClassFile.FieldType)) ∈ BIG := big_in1 18 _ rfl rfl
theorem bw_19 : (Cond.methodLink "SweetWraps" (1 : Nat) ({ cls := "java/lang/Object", name := "<init>", desc := "()V" } : MethodName)) ∈ BIG := big_in1 19 _ rfl rfl
theorem bw_20 : (Cond.instanceMethod ({ cls := "java/lang/Object", name := "<init>", desc := "()V" } : MethodName)) ∈ BIG := big_in1 20 _ rfl rfl
theorem bw_21 : (Cond.code ({ cls := "java/lang/Object", name := "<init>", desc := "()V" } : MethodName) object_method_1_code (1 : Nat) (Option.none : Option ClassFile.FieldType)) ∈ BIG := big_in1 21 _ rfl rfl
theorem bw_22 : (Cond.classLink "SweetWraps" (7 : Nat) "SweetWraps$Machine") ∈ BIG := big_in1 22 _ rfl rfl
theorem bw_23 : (Cond.instantiable "SweetWraps$Machine" (8 : Nat)) ∈ BIG := big_in1 23 _ rfl rfl
theorem bw_24 : (Cond.methodLink "SweetWraps" (9 : Nat) ({ cls := "SweetWraps$Machine", name := "<init>", desc := "()V" } : MethodName)) ∈ BIG := big_in1 24 _ rfl rfl
theorem bw_25 : (Cond.instanceMethod ({ cls := "SweetWraps$Machine", name := "<init>", desc := "()V" } : MethodName)) ∈ BIG := big_in1 25 _ rfl rfl
theorem bw_26 : (Cond.code ({ cls := "SweetWraps$Machine", name := "<init>", desc := "()V" } : MethodName) prog_4_method_1_code (2 : Nat) (Option.none : Option ClassFile.FieldType)) ∈ BIG := big_in1 26 _ rfl rfl
theorem bw_27 : (Cond.methodLink "SweetWraps$Machine" (3 : Nat) ({ cls := "java/lang/Object", name := "<init>", desc := "()V" } : MethodName)) ∈ BIG := big_in1 27 _ rfl rfl
theorem bw_28 : (Cond.classLink "SweetWraps$Machine" (15 : Nat) "SweetWraps$Lane") ∈ BIG := big_in1 28 _ rfl rfl
theorem bw_30 : (Cond.classLink "SweetWraps$Machine" (21 : Nat) "SweetWraps$Tin") ∈ BIG := big_in1 30 _ rfl rfl
theorem bw_32 : (Cond.instantiable "SweetWraps$Lane" (8 : Nat)) ∈ BIG := big_in1 32 _ rfl rfl
theorem bw_34 : (Cond.instanceMethod ({ cls := "SweetWraps$Lane", name := "<init>", desc := "()V" } : MethodName)) ∈ BIG := big_in1 34 _ rfl rfl
theorem bw_35 : (Cond.code ({ cls := "SweetWraps$Lane", name := "<init>", desc := "()V" } : MethodName) prog_3_method_1_code (1 : Nat) (Option.none : Option ClassFile.FieldType)) ∈ BIG := big_in1 35 _ rfl rfl
theorem bw_36 : (Cond.methodLink "SweetWraps$Lane" (3 : Nat) ({ cls := "java/lang/Object", name := "<init>", desc := "()V" } : MethodName)) ∈ BIG := big_in1 36 _ rfl rfl
theorem bw_37 : (Cond.fieldLink "SweetWraps$Lane" (9 : Nat) "SweetWraps$Lane" "flavours" "[I") ∈ BIG := big_in1 37 _ rfl rfl
theorem bw_38 : (Cond.fieldLink "SweetWraps$Machine" (162 : Nat) "SweetWraps$Lane" "flavours" "[I") ∈ BIG := big_in1 38 _ rfl rfl
theorem bw_39 : (Cond.fieldLink "SweetWraps$Lane" (15 : Nat) "SweetWraps$Lane" "sweets" "[I") ∈ BIG := big_in1 39 _ rfl rfl
theorem bw_40 : (Cond.fieldLink "SweetWraps$Machine" (165 : Nat) "SweetWraps$Lane" "sweets" "[I") ∈ BIG := big_in1 40 _ rfl rfl
theorem bw_41 : (Cond.fieldLink "SweetWraps$Lane" (22 : Nat) "SweetWraps$Lane" "heaps" "I") ∈ BIG := big_in1 41 _ rfl rfl
theorem bw_42 : (Cond.fieldLink "SweetWraps$Machine" (138 : Nat) "SweetWraps$Lane" "heaps" "I") ∈ BIG := big_in1 42 _ rfl rfl
theorem bw_43 : (Cond.fieldLink "SweetWraps$Lane" (26 : Nat) "SweetWraps$Lane" "foilLeft" "I") ∈ BIG := big_in1 43 _ rfl rfl
theorem bw_44 : (Cond.fieldLink "SweetWraps$Machine" (74 : Nat) "SweetWraps$Lane" "foilLeft" "I") ∈ BIG := big_in1 44 _ rfl rfl
theorem bw_45 : (Cond.fieldLink "SweetWraps$Lane" (29 : Nat) "SweetWraps$Lane" "pulls" "I") ∈ BIG := big_in1 45 _ rfl rfl
theorem bw_46 : (Cond.fieldLink "SweetWraps$Machine" (147 : Nat) "SweetWraps$Lane" "pulls" "I") ∈ BIG := big_in1 46 _ rfl rfl
theorem bw_47 : (Cond.fieldLink "SweetWraps$Lane" (32 : Nat) "SweetWraps$Lane" "torn" "I") ∈ BIG := big_in1 47 _ rfl rfl
theorem bw_48 : (Cond.fieldLink "SweetWraps$Machine" (150 : Nat) "SweetWraps$Lane" "torn" "I") ∈ BIG := big_in1 48 _ rfl rfl
theorem bw_49 : (Cond.fieldLink "SweetWraps$Lane" (35 : Nat) "SweetWraps$Lane" "wrapped" "I") ∈ BIG := big_in1 49 _ rfl rfl
theorem bw_50 : (Cond.fieldLink "SweetWraps$Machine" (153 : Nat) "SweetWraps$Lane" "wrapped" "I") ∈ BIG := big_in1 50 _ rfl rfl
theorem bw_51 : (Cond.fieldLink "SweetWraps$Machine" (110 : Nat) "SweetWraps$Lane" "lastReason" "I") ∈ BIG := big_in1 51 _ rfl rfl
theorem bw_52 : (Cond.fieldLink "SweetWraps" (118 : Nat) "SweetWraps$Lane" "lastReason" "I") ∈ BIG := big_in1 52 _ rfl rfl
theorem bw_53 : (Cond.laysFinal "SweetWraps$Lane" "SweetWraps$Lane" "flavours" "[I") ∈ BIG := big_in1 53 _ rfl rfl
theorem bw_55 : (Cond.laysFinal "SweetWraps$Lane" "SweetWraps$Lane" "sweets" "[I") ∈ BIG := big_in1 55 _ rfl rfl
theorem bw_57 : (Cond.lays "SweetWraps$Lane" "SweetWraps$Lane" "heaps" "I") ∈ BIG := big_in1 57 _ rfl rfl
theorem bw_59 : (Cond.lays "SweetWraps$Lane" "SweetWraps$Lane" "foilLeft" "I") ∈ BIG := big_in1 59 _ rfl rfl
theorem bw_61 : (Cond.lays "SweetWraps$Lane" "SweetWraps$Lane" "pulls" "I") ∈ BIG := big_in1 61 _ rfl rfl
theorem bw_63 : (Cond.lays "SweetWraps$Lane" "SweetWraps$Lane" "torn" "I") ∈ BIG := big_in1 63 _ rfl rfl
theorem bw_65 : (Cond.lays "SweetWraps$Lane" "SweetWraps$Lane" "wrapped" "I") ∈ BIG := big_in1 65 _ rfl rfl
theorem bw_67 : (Cond.lays "SweetWraps$Lane" "SweetWraps$Lane" "lastReason" "I") ∈ BIG := big_in1 67 _ rfl rfl
theorem bw_70 : (Cond.arrayClass ClassFile.FieldType.int) ∈ BIG := big_in1 70 _ rfl rfl
theorem bw_71 : (Cond.instantiable "SweetWraps$Tin" (4 : Nat)) ∈ BIG := big_in1 71 _ rfl rfl
theorem bw_73 : (Cond.instanceMethod ({ cls := "SweetWraps$Tin", name := "<init>", desc := "()V" } : MethodName)) ∈ BIG := big_in1 73 _ rfl rfl
theorem bw_74 : (Cond.code ({ cls := "SweetWraps$Tin", name := "<init>", desc := "()V" } : MethodName) prog_6_method_1_code (1 : Nat) (Option.none : Option ClassFile.FieldType)) ∈ BIG := big_in1 74 _ rfl rfl
theorem bw_75 : (Cond.methodLink "SweetWraps$Tin" (3 : Nat) ({ cls := "java/lang/Object", name := "<init>", desc := "()V" } : MethodName)) ∈ BIG := big_in1 75 _ rfl rfl
theorem bw_76 : (Cond.fieldLink "SweetWraps$Tin" (9 : Nat) "SweetWraps$Tin" "sweets" "[I") ∈ BIG := big_in1 76 _ rfl rfl
theorem bw_77 : (Cond.fieldLink "SweetWraps$Machine" (180 : Nat) "SweetWraps$Tin" "sweets" "[I") ∈ BIG := big_in1 77 _ rfl rfl
theorem bw_78 : (Cond.fieldLink "SweetWraps$Tin" (19 : Nat) "SweetWraps$Tin" "flavours" "I") ∈ BIG := big_in1 78 _ rfl rfl
theorem bw_79 : (Cond.fieldLink "SweetWraps$Machine" (174 : Nat) "SweetWraps$Tin" "flavours" "I") ∈ BIG := big_in1 79 _ rfl rfl
theorem bw_80 : (Cond.fieldLink "SweetWraps$Tin" (23 : Nat) "SweetWraps$Tin" "total" "I") ∈ BIG := big_in1 80 _ rfl rfl
theorem bw_81 : (Cond.fieldLink "SweetWraps$Machine" (85 : Nat) "SweetWraps$Tin" "total" "I") ∈ BIG := big_in1 81 _ rfl rfl
theorem bw_82 : (Cond.fieldLink "SweetWraps$Tin" (26 : Nat) "SweetWraps$Tin" "shipped" "Z") ∈ BIG := big_in1 82 _ rfl rfl
theorem bw_83 : (Cond.fieldLink "SweetWraps$Machine" (81 : Nat) "SweetWraps$Tin" "shipped" "Z") ∈ BIG := big_in1 83 _ rfl rfl
theorem bw_84 : (Cond.laysFinal "SweetWraps$Tin" "SweetWraps$Tin" "sweets" "[I") ∈ BIG := big_in1 84 _ rfl rfl
theorem bw_86 : (Cond.lays "SweetWraps$Tin" "SweetWraps$Tin" "flavours" "I") ∈ BIG := big_in1 86 _ rfl rfl
theorem bw_88 : (Cond.lays "SweetWraps$Tin" "SweetWraps$Tin" "total" "I") ∈ BIG := big_in1 88 _ rfl rfl
theorem bw_90 : (Cond.lays "SweetWraps$Tin" "SweetWraps$Tin" "shipped" "Z") ∈ BIG := big_in1 90 _ rfl rfl
theorem bw_93 : (Cond.fieldLink "SweetWraps$Machine" (9 : Nat) "SweetWraps$Machine" "settings" "[I") ∈ BIG := big_in1 93 _ rfl rfl
theorem bw_94 : (Cond.fieldLink "SweetWraps" (134 : Nat) "SweetWraps$Machine" "settings" "[I") ∈ BIG := big_in1 94 _ rfl rfl
theorem bw_95 : (Cond.fieldLink "SweetWraps$Machine" (17 : Nat) "SweetWraps$Machine" "lanes" "[LSweetWraps$Lane;") ∈ BIG := big_in1 95 _ rfl rfl
theorem bw_96 : (Cond.fieldLink "SweetWraps" (114 : Nat) "SweetWraps$Machine" "lanes" "[LSweetWraps$Lane;") ∈ BIG := big_in1 96 _ rfl rfl
theorem bw_97 : (Cond.fieldLink "SweetWraps$Machine" (23 : Nat) "SweetWraps$Machine" "tins" "[LSweetWraps$Tin;") ∈ BIG := big_in1 97 _ rfl rfl
theorem bw_98 : (Cond.fieldLink "SweetWraps$Machine" (27 : Nat) "SweetWraps$Machine" "apartFrom" "[I") ∈ BIG := big_in1 98 _ rfl rfl
theorem bw_99 : (Cond.fieldLink "SweetWraps$Machine" (43 : Nat) "SweetWraps$Machine" "tinCount" "I") ∈ BIG := big_in1 99 _ rfl rfl
theorem bw_100 : (Cond.fieldLink "SweetWraps" (178 : Nat) "SweetWraps$Machine" "tinCount" "I") ∈ BIG := big_in1 100 _ rfl rfl
theorem bw_101 : (Cond.fieldLink "SweetWraps$Machine" (47 : Nat) "SweetWraps$Machine" "ticks" "I") ∈ BIG := big_in1 101 _ rfl rfl
theorem bw_102 : (Cond.fieldLink "SweetWraps$Machine" (50 : Nat) "SweetWraps$Machine" "foilPulled" "I") ∈ BIG := big_in1 102 _ rfl rfl
theorem bw_103 : (Cond.fieldLink "SweetWraps$Machine" (53 : Nat) "SweetWraps$Machine" "foilWasted" "I") ∈ BIG := big_in1 103 _ rfl rfl
theorem bw_104 : (Cond.laysFinal "SweetWraps$Machine" "SweetWraps$Machine" "settings" "[I") ∈ BIG := big_in1 104 _ rfl rfl
theorem bw_106 : (Cond.laysFinal "SweetWraps$Machine" "SweetWraps$Machine" "lanes" "[LSweetWraps$Lane;") ∈ BIG := big_in1 106 _ rfl rfl
theorem bw_108 : (Cond.laysFinal "SweetWraps$Machine" "SweetWraps$Machine" "tins" "[LSweetWraps$Tin;") ∈ BIG := big_in1 108 _ rfl rfl
theorem bw_110 : (Cond.laysFinal "SweetWraps$Machine" "SweetWraps$Machine" "apartFrom" "[I") ∈ BIG := big_in1 110 _ rfl rfl
theorem bw_112 : (Cond.lays "SweetWraps$Machine" "SweetWraps$Machine" "tinCount" "I") ∈ BIG := big_in1 112 _ rfl rfl
theorem bw_114 : (Cond.lays "SweetWraps$Machine" "SweetWraps$Machine" "ticks" "I") ∈ BIG := big_in1 114 _ rfl rfl
theorem bw_116 : (Cond.lays "SweetWraps$Machine" "SweetWraps$Machine" "foilPulled" "I") ∈ BIG := big_in1 116 _ rfl rfl
theorem bw_118 : (Cond.lays "SweetWraps$Machine" "SweetWraps$Machine" "foilWasted" "I") ∈ BIG := big_in1 118 _ rfl rfl
theorem bw_121 : (Cond.classLink "SweetWraps" (19 : Nat) "SweetWraps$History") ∈ BIG := big_in1 121 _ rfl rfl
theorem bw_122 : (Cond.instantiable "SweetWraps$History" (3 : Nat)) ∈ BIG := big_in1 122 _ rfl rfl
theorem bw_123 : (Cond.methodLink "SweetWraps" (21 : Nat) ({ cls := "SweetWraps$History", name := "<init>", desc := "()V" } : MethodName)) ∈ BIG := big_in1 123 _ rfl rfl
theorem bw_124 : (Cond.instanceMethod ({ cls := "SweetWraps$History", name := "<init>", desc := "()V" } : MethodName)) ∈ BIG := big_in1 124 _ rfl rfl
theorem bw_125 : (Cond.code ({ cls := "SweetWraps$History", name := "<init>", desc := "()V" } : MethodName) prog_2_method_1_code (2 : Nat) (Option.none : Option ClassFile.FieldType)) ∈ BIG := big_in1 125 _ rfl rfl
theorem bw_126 : (Cond.methodLink "SweetWraps$History" (3 : Nat) ({ cls := "java/lang/Object", name := "<init>", desc := "()V" } : MethodName)) ∈ BIG := big_in1 126 _ rfl rfl
theorem bw_127 : (Cond.classLink "SweetWraps$History" (9 : Nat) "SweetWraps$Machine") ∈ BIG := big_in1 127 _ rfl rfl
theorem bw_129 : (Cond.methodLink "SweetWraps$History" (17 : Nat) ({ cls := "SweetWraps$Machine", name := "<init>", desc := "()V" } : MethodName)) ∈ BIG := big_in1 129 _ rfl rfl
theorem bw_130 : (Cond.fieldLink "SweetWraps$History" (11 : Nat) "SweetWraps$History" "states" "[LSweetWraps$Machine;") ∈ BIG := big_in1 130 _ rfl rfl
theorem bw_131 : (Cond.fieldLink "SweetWraps$History" (18 : Nat) "SweetWraps$History" "prepared" "LSweetWraps$Machine;") ∈ BIG := big_in1 131 _ rfl rfl
theorem bw_132 : (Cond.fieldLink "SweetWraps$History" (26 : Nat) "SweetWraps$History" "depth" "I") ∈ BIG := big_in1 132 _ rfl rfl
theorem bw_133 : (Cond.fieldLink "SweetWraps" (98 : Nat) "SweetWraps$History" "depth" "I") ∈ BIG := big_in1 133 _ rfl rfl
theorem bw_134 : (Cond.laysFinal "SweetWraps$History" "SweetWraps$History" "states" "[LSweetWraps$Machine;") ∈ BIG := big_in1 134 _ rfl rfl
theorem bw_136 : (Cond.lays "SweetWraps$History" "SweetWraps$History" "prepared" "LSweetWraps$Machine;") ∈ BIG := big_in1 136 _ rfl rfl
theorem bw_138 : (Cond.lays "SweetWraps$History" "SweetWraps$History" "depth" "I") ∈ BIG := big_in1 138 _ rfl rfl
theorem bw_141 : (Cond.classLink "SweetWraps" (34 : Nat) "SweetWraps$Pad") ∈ BIG := big_in1 141 _ rfl rfl
theorem bw_142 : (Cond.instantiable "SweetWraps$Pad" (6 : Nat)) ∈ BIG := big_in1 142 _ rfl rfl
theorem bw_144 : (Cond.instanceMethod ({ cls := "SweetWraps$Pad", name := "<init>", desc := "()V" } : MethodName)) ∈ BIG := big_in1 144 _ rfl rfl
theorem bw_145 : (Cond.code ({ cls := "SweetWraps$Pad", name := "<init>", desc := "()V" } : MethodName) prog_5_method_1_code (1 : Nat) (Option.none : Option ClassFile.FieldType)) ∈ BIG := big_in1 145 _ rfl rfl
theorem bw_146 : (Cond.methodLink "SweetWraps$Pad" (3 : Nat) ({ cls := "java/lang/Object", name := "<init>", desc := "()V" } : MethodName)) ∈ BIG := big_in1 146 _ rfl rfl
theorem bw_147 : (Cond.fieldLink "SweetWraps$Pad" (9 : Nat) "SweetWraps$Pad" "signs" "[C") ∈ BIG := big_in1 147 _ rfl rfl
theorem bw_148 : (Cond.fieldLink "SweetWraps$Pad" (15 : Nat) "SweetWraps$Pad" "values" "[I") ∈ BIG := big_in1 148 _ rfl rfl
theorem bw_149 : (Cond.fieldLink "SweetWraps" (171 : Nat) "SweetWraps$Pad" "values" "[I") ∈ BIG := big_in1 149 _ rfl rfl
theorem bw_150 : (Cond.fieldLink "SweetWraps$Pad" (23 : Nat) "SweetWraps$Pad" "length" "I") ∈ BIG := big_in1 150 _ rfl rfl
theorem bw_151 : (Cond.fieldLink "SweetWraps" (94 : Nat) "SweetWraps$Pad" "length" "I") ∈ BIG := big_in1 151 _ rfl rfl
theorem bw_152 : (Cond.fieldLink "SweetWraps$Pad" (44 : Nat) "SweetWraps$Pad" "place" "I") ∈ BIG := big_in1 152 _ rfl rfl
theorem bw_153 : (Cond.fieldLink "SweetWraps$Pad" (55 : Nat) "SweetWraps$Pad" "kind" "I") ∈ BIG := big_in1 153 _ rfl rfl
theorem bw_154 : (Cond.fieldLink "SweetWraps" (168 : Nat) "SweetWraps$Pad" "kind" "I") ∈ BIG := big_in1 154 _ rfl rfl
theorem bw_155 : (Cond.fieldLink "SweetWraps$Pad" (58 : Nat) "SweetWraps$Pad" "valueCount" "I") ∈ BIG := big_in1 155 _ rfl rfl
theorem bw_156 : (Cond.laysFinal "SweetWraps$Pad" "SweetWraps$Pad" "signs" "[C") ∈ BIG := big_in1 156 _ rfl rfl
theorem bw_158 : (Cond.laysFinal "SweetWraps$Pad" "SweetWraps$Pad" "values" "[I") ∈ BIG := big_in1 158 _ rfl rfl
theorem bw_160 : (Cond.lays "SweetWraps$Pad" "SweetWraps$Pad" "length" "I") ∈ BIG := big_in1 160 _ rfl rfl
theorem bw_162 : (Cond.lays "SweetWraps$Pad" "SweetWraps$Pad" "place" "I") ∈ BIG := big_in1 162 _ rfl rfl
theorem bw_164 : (Cond.lays "SweetWraps$Pad" "SweetWraps$Pad" "kind" "I") ∈ BIG := big_in1 164 _ rfl rfl
theorem bw_166 : (Cond.lays "SweetWraps$Pad" "SweetWraps$Pad" "valueCount" "I") ∈ BIG := big_in1 166 _ rfl rfl
theorem bw_169 : (Cond.arrayClass ClassFile.FieldType.boolean) ∈ BIG := big_in1 169 _ rfl rfl
theorem bw_170 : (Cond.arrayClass ClassFile.FieldType.char) ∈ BIG := big_in1 170 _ rfl rfl
theorem bw_171 : (Cond.fieldLink "SweetWraps" (10 : Nat) "SweetWraps" "now" "LSweetWraps$Machine;") ∈ BIG := big_in1 171 _ rfl rfl
theorem bw_172 : (Cond.fieldLink "SweetWraps" (16 : Nat) "SweetWraps" "trial" "LSweetWraps$Machine;") ∈ BIG := big_in1 172 _ rfl rfl
theorem bw_173 : (Cond.fieldLink "SweetWraps" (22 : Nat) "SweetWraps" "history" "LSweetWraps$History;") ∈ BIG := big_in1 173 _ rfl rfl
theorem bw_174 : (Cond.fieldLink "SweetWraps" (26 : Nat) "SweetWraps" "slots" "[LSweetWraps$Machine;") ∈ BIG := big_in1 174 _ rfl rfl
theorem bw_175 : (Cond.fieldLink "SweetWraps" (30 : Nat) "SweetWraps" "saved" "[Z") ∈ BIG := big_in1 175 _ rfl rfl
theorem bw_176 : (Cond.fieldLink "SweetWraps" (37 : Nat) "SweetWraps" "pad" "LSweetWraps$Pad;") ∈ BIG := big_in1 176 _ rfl rfl
theorem bw_177 : (Cond.laysFinal "SweetWraps" "SweetWraps" "now" "LSweetWraps$Machine;") ∈ BIG := big_in1 177 _ rfl rfl
theorem bw_179 : (Cond.laysFinal "SweetWraps" "SweetWraps" "trial" "LSweetWraps$Machine;") ∈ BIG := big_in1 179 _ rfl rfl
theorem bw_181 : (Cond.laysFinal "SweetWraps" "SweetWraps" "history" "LSweetWraps$History;") ∈ BIG := big_in1 181 _ rfl rfl
theorem bw_183 : (Cond.laysFinal "SweetWraps" "SweetWraps" "slots" "[LSweetWraps$Machine;") ∈ BIG := big_in1 183 _ rfl rfl
theorem bw_185 : (Cond.laysFinal "SweetWraps" "SweetWraps" "saved" "[Z") ∈ BIG := big_in1 185 _ rfl rfl
theorem bw_187 : (Cond.laysFinal "SweetWraps" "SweetWraps" "pad" "LSweetWraps$Pad;") ∈ BIG := big_in1 187 _ rfl rfl
theorem bw_190 : (Cond.methodLink "SweetWrapsLaw" (13 : Nat) ({ cls := "SweetWraps", name := "set", desc := "(II)I" } : MethodName)) ∈ BIG := big_in1 190 _ rfl rfl
theorem bw_191 : (Cond.instanceMethod ({ cls := "SweetWraps", name := "set", desc := "(II)I" } : MethodName)) ∈ BIG := big_in1 191 _ rfl rfl
theorem bw_192 : (Cond.selects "SweetWraps" ({ cls := "SweetWraps", name := "set", desc := "(II)I" } : MethodName) ({ cls := "SweetWraps", name := "set", desc := "(II)I" } : MethodName)) ∈ BIG := big_in1 192 _ rfl rfl
theorem bw_193 : (Cond.code ({ cls := "SweetWraps", name := "set", desc := "(II)I" } : MethodName) prog_1_method_2_code (3 : Nat) (Option.some ClassFile.FieldType.int)) ∈ BIG := big_in1 193 _ rfl rfl
theorem bw_194 : (Cond.methodLink "SweetWraps" (41 : Nat) ({ cls := "SweetWraps$History", name := "prepare", desc := "(LSweetWraps$Machine;)V" } : MethodName)) ∈ BIG := big_in1 194 _ rfl rfl
theorem bw_195 : (Cond.instanceMethod ({ cls := "SweetWraps$History", name := "prepare", desc := "(LSweetWraps$Machine;)V" } : MethodName)) ∈ BIG := big_in1 195 _ rfl rfl
theorem bw_196 : (Cond.selects "SweetWraps$History" ({ cls := "SweetWraps$History", name := "prepare", desc := "(LSweetWraps$Machine;)V" } : MethodName) ({ cls := "SweetWraps$History", name := "prepare", desc := "(LSweetWraps$Machine;)V" } : MethodName)) ∈ BIG := big_in1 196 _ rfl rfl
theorem bw_197 : (Cond.code ({ cls := "SweetWraps$History", name := "prepare", desc := "(LSweetWraps$Machine;)V" } : MethodName) prog_2_method_2_code (2 : Nat) (Option.none : Option ClassFile.FieldType)) ∈ BIG := big_in1 197 _ rfl rfl
theorem bw_198 : (Cond.methodLink "SweetWraps$History" (22 : Nat) ({ cls := "SweetWraps$Machine", name := "copyFrom", desc := "(LSweetWraps$Machine;)V" } : MethodName)) ∈ BIG := big_in1 198 _ rfl rfl
theorem bw_199 : (Cond.instanceMethod ({ cls := "SweetWraps$Machine", name := "copyFrom", desc := "(LSweetWraps$Machine;)V" } : MethodName)) ∈ BIG := big_in1 199 _ rfl rfl
theorem bw_200 : (Cond.selects "SweetWraps$Machine" ({ cls := "SweetWraps$Machine", name := "copyFrom", desc := "(LSweetWraps$Machine;)V" } : MethodName) ({ cls := "SweetWraps$Machine", name := "copyFrom", desc := "(LSweetWraps$Machine;)V" } : MethodName)) ∈ BIG := big_in1 200 _ rfl rfl
theorem bw_201 : (Cond.code ({ cls := "SweetWraps$Machine", name := "copyFrom", desc := "(LSweetWraps$Machine;)V" } : MethodName) prog_4_method_2_code (3 : Nat) (Option.none : Option ClassFile.FieldType)) ∈ BIG := big_in1 201 _ rfl rfl
theorem bw_203 : (Cond.static ({ cls := "SweetWraps", name := "copyNumbers", desc := "([I[I)V" } : MethodName)) ∈ BIG := big_in1 203 _ rfl rfl
theorem bw_204 : (Cond.code ({ cls := "SweetWraps", name := "copyNumbers", desc := "([I[I)V" } : MethodName) prog_1_method_31_code (2 : Nat) (Option.none : Option ClassFile.FieldType)) ∈ BIG := big_in1 204 _ rfl rfl
theorem bw_205 : (Cond.methodLink "SweetWraps" (181 : Nat) ({ cls := "java/lang/Math", name := "min", desc := "(II)I" } : MethodName)) ∈ BIG := big_in1 205 _ rfl rfl
theorem bw_206 : (Cond.static ({ cls := "java/lang/Math", name := "min", desc := "(II)I" } : MethodName)) ∈ BIG := big_in1 206 _ rfl rfl
theorem bw_207 : (Cond.code ({ cls := "java/lang/Math", name := "min", desc := "(II)I" } : MethodName) prog_9_method_69_code (2 : Nat) (Option.some ClassFile.FieldType.int)) ∈ BIG := big_in1 207 _ rfl rfl
theorem bw_208 : (Cond.methodLink "SweetWraps" (186 : Nat) ({ cls := "java/lang/System", name := "arraycopy", desc := "(Ljava/lang/Object;ILjava/lang/Object;II)V" } : MethodName)) ∈ BIG := big_in1 208 _ rfl rfl
theorem bw_209 : (Cond.static ({ cls := "java/lang/System", name := "arraycopy", desc := "(Ljava/lang/Object;ILjava/lang/Object;II)V" } : MethodName)) ∈ BIG := big_in1 209 _ rfl rfl
theorem bw_210 : (Cond.native ({ cls := "java/lang/System", name := "arraycopy", desc := "(Ljava/lang/Object;ILjava/lang/Object;II)V" } : MethodName)) ∈ BIG := big_in1 210 _ rfl rfl
theorem bw_211 : (Cond.methodLink "SweetWraps$Machine" (36 : Nat) ({ cls := "SweetWraps$Lane", name := "copyFrom", desc := "(LSweetWraps$Lane;)V" } : MethodName)) ∈ BIG := big_in1 211 _ rfl rfl
theorem bw_212 : (Cond.instanceMethod ({ cls := "SweetWraps$Lane", name := "copyFrom", desc := "(LSweetWraps$Lane;)V" } : MethodName)) ∈ BIG := big_in1 212 _ rfl rfl
theorem bw_213 : (Cond.selects "SweetWraps$Lane" ({ cls := "SweetWraps$Lane", name := "copyFrom", desc := "(LSweetWraps$Lane;)V" } : MethodName) ({ cls := "SweetWraps$Lane", name := "copyFrom", desc := "(LSweetWraps$Lane;)V" } : MethodName)) ∈ BIG := big_in1 213 _ rfl rfl
theorem bw_214 : (Cond.code ({ cls := "SweetWraps$Lane", name := "copyFrom", desc := "(LSweetWraps$Lane;)V" } : MethodName) prog_3_method_2_code (2 : Nat) (Option.none : Option ClassFile.FieldType)) ∈ BIG := big_in1 214 _ rfl rfl
theorem bw_216 : (Cond.methodLink "SweetWraps$Machine" (40 : Nat) ({ cls := "SweetWraps$Tin", name := "copyFrom", desc := "(LSweetWraps$Tin;)V" } : MethodName)) ∈ BIG := big_in1 216 _ rfl rfl
theorem bw_217 : (Cond.instanceMethod ({ cls := "SweetWraps$Tin", name := "copyFrom", desc := "(LSweetWraps$Tin;)V" } : MethodName)) ∈ BIG := big_in1 217 _ rfl rfl
theorem bw_218 : (Cond.selects "SweetWraps$Tin" ({ cls := "SweetWraps$Tin", name := "copyFrom", desc := "(LSweetWraps$Tin;)V" } : MethodName) ({ cls := "SweetWraps$Tin", name := "copyFrom", desc := "(LSweetWraps$Tin;)V" } : MethodName)) ∈ BIG := big_in1 218 _ rfl rfl
theorem bw_219 : (Cond.code ({ cls := "SweetWraps$Tin", name := "copyFrom", desc := "(LSweetWraps$Tin;)V" } : MethodName) prog_6_method_2_code (2 : Nat) (Option.none : Option ClassFile.FieldType)) ∈ BIG := big_in1 219 _ rfl rfl
theorem bw_221 : (Cond.methodLink "SweetWraps" (45 : Nat) ({ cls := "SweetWraps$Machine", name := "changeSetting", desc := "(II)I" } : MethodName)) ∈ BIG := big_in1 221 _ rfl rfl
theorem bw_222 : (Cond.instanceMethod ({ cls := "SweetWraps$Machine", name := "changeSetting", desc := "(II)I" } : MethodName)) ∈ BIG := big_in1 222 _ rfl rfl
theorem bw_223 : (Cond.selects "SweetWraps$Machine" ({ cls := "SweetWraps$Machine", name := "changeSetting", desc := "(II)I" } : MethodName) ({ cls := "SweetWraps$Machine", name := "changeSetting", desc := "(II)I" } : MethodName)) ∈ BIG := big_in1 223 _ rfl rfl
theorem bw_224 : (Cond.code ({ cls := "SweetWraps$Machine", name := "changeSetting", desc := "(II)I" } : MethodName) prog_4_method_3_code (4 : Nat) (Option.some ClassFile.FieldType.int)) ∈ BIG := big_in1 224 _ rfl rfl
theorem bw_226 : (Cond.static ({ cls := "SweetWraps", name := "isIndex", desc := "(II)Z" } : MethodName)) ∈ BIG := big_in1 226 _ rfl rfl
theorem bw_227 : (Cond.code ({ cls := "SweetWraps", name := "isIndex", desc := "(II)Z" } : MethodName) prog_1_method_29_code (2 : Nat) (Option.some ClassFile.FieldType.boolean)) ∈ BIG := big_in1 227 _ rfl rfl
theorem bw_233 : (Cond.static ({ cls := "SweetWraps", name := "isBetween", desc := "(III)Z" } : MethodName)) ∈ BIG := big_in1 233 _ rfl rfl
theorem bw_234 : (Cond.code ({ cls := "SweetWraps", name := "isBetween", desc := "(III)Z" } : MethodName) prog_1_method_30_code (3 : Nat) (Option.some ClassFile.FieldType.boolean)) ∈ BIG := big_in1 234 _ rfl rfl
theorem bw_235 : (Cond.methodLink "SweetWraps" (49 : Nat) ({ cls := "SweetWraps$History", name := "record", desc := "(I)I" } : MethodName)) ∈ BIG := big_in1 235 _ rfl rfl
theorem bw_236 : (Cond.instanceMethod ({ cls := "SweetWraps$History", name := "record", desc := "(I)I" } : MethodName)) ∈ BIG := big_in1 236 _ rfl rfl
theorem bw_237 : (Cond.selects "SweetWraps$History" ({ cls := "SweetWraps$History", name := "record", desc := "(I)I" } : MethodName) ({ cls := "SweetWraps$History", name := "record", desc := "(I)I" } : MethodName)) ∈ BIG := big_in1 237 _ rfl rfl
theorem bw_238 : (Cond.code ({ cls := "SweetWraps$History", name := "record", desc := "(I)I" } : MethodName) prog_2_method_3_code (3 : Nat) (Option.some ClassFile.FieldType.int)) ∈ BIG := big_in1 238 _ rfl rfl
theorem bw_239 : (Cond.methodLink "SweetWraps$History" (30 : Nat) ({ cls := "SweetWraps$History", name := "dropOldest", desc := "()V" } : MethodName)) ∈ BIG := big_in1 239 _ rfl rfl
theorem bw_241 : (Cond.instanceMethod ({ cls := "SweetWraps$History", name := "dropOldest", desc := "()V" } : MethodName)) ∈ BIG := big_in2 1 _ rfl rfl
theorem bw_242 : (Cond.code ({ cls := "SweetWraps$History", name := "dropOldest", desc := "()V" } : MethodName) prog_2_method_4_code (3 : Nat) (Option.none : Option ClassFile.FieldType)) ∈ BIG := big_in2 2 _ rfl rfl
theorem bw_244 : (Cond.methodLink "SweetWrapsLaw" (18 : Nat) ({ cls := "SweetWraps", name := "heap", desc := "(III)I" } : MethodName)) ∈ BIG := big_in2 4 _ rfl rfl
theorem bw_245 : (Cond.instanceMethod ({ cls := "SweetWraps", name := "heap", desc := "(III)I" } : MethodName)) ∈ BIG := big_in2 5 _ rfl rfl
theorem bw_246 : (Cond.selects "SweetWraps" ({ cls := "SweetWraps", name := "heap", desc := "(III)I" } : MethodName) ({ cls := "SweetWraps", name := "heap", desc := "(III)I" } : MethodName)) ∈ BIG := big_in2 6 _ rfl rfl
theorem bw_247 : (Cond.code ({ cls := "SweetWraps", name := "heap", desc := "(III)I" } : MethodName) prog_1_method_3_code (4 : Nat) (Option.some ClassFile.FieldType.int)) ∈ BIG := big_in2 7 _ rfl rfl
theorem bw_248 : (Cond.methodLink "SweetWraps" (53 : Nat) ({ cls := "SweetWraps$Machine", name := "addSweets", desc := "(III)I" } : MethodName)) ∈ BIG := big_in2 8 _ rfl rfl
theorem bw_249 : (Cond.instanceMethod ({ cls := "SweetWraps$Machine", name := "addSweets", desc := "(III)I" } : MethodName)) ∈ BIG := big_in2 9 _ rfl rfl
theorem bw_250 : (Cond.selects "SweetWraps$Machine" ({ cls := "SweetWraps$Machine", name := "addSweets", desc := "(III)I" } : MethodName) ({ cls := "SweetWraps$Machine", name := "addSweets", desc := "(III)I" } : MethodName)) ∈ BIG := big_in2 10 _ rfl rfl
theorem bw_251 : (Cond.code ({ cls := "SweetWraps$Machine", name := "addSweets", desc := "(III)I" } : MethodName) prog_4_method_4_code (4 : Nat) (Option.some ClassFile.FieldType.int)) ∈ BIG := big_in2 11 _ rfl rfl
theorem bw_252 : (Cond.methodLink "SweetWraps$Machine" (70 : Nat) ({ cls := "SweetWraps$Lane", name := "addSweets", desc := "(II)I" } : MethodName)) ∈ BIG := big_in2 12 _ rfl rfl
theorem bw_253 : (Cond.instanceMethod ({ cls := "SweetWraps$Lane", name := "addSweets", desc := "(II)I" } : MethodName)) ∈ BIG := big_in2 13 _ rfl rfl
theorem bw_254 : (Cond.selects "SweetWraps$Lane" ({ cls := "SweetWraps$Lane", name := "addSweets", desc := "(II)I" } : MethodName) ({ cls := "SweetWraps$Lane", name := "addSweets", desc := "(II)I" } : MethodName)) ∈ BIG := big_in2 14 _ rfl rfl
theorem bw_255 : (Cond.code ({ cls := "SweetWraps$Lane", name := "addSweets", desc := "(II)I" } : MethodName) prog_3_method_7_code (5 : Nat) (Option.some ClassFile.FieldType.int)) ∈ BIG := big_in2 15 _ rfl rfl
theorem bw_256 : (Cond.methodLink "SweetWraps$Lane" (42 : Nat) ({ cls := "SweetWraps$Lane", name := "isHeap", desc := "(I)Z" } : MethodName)) ∈ BIG := big_in2 16 _ rfl rfl
theorem bw_257 : (Cond.instanceMethod ({ cls := "SweetWraps$Lane", name := "isHeap", desc := "(I)Z" } : MethodName)) ∈ BIG := big_in2 17 _ rfl rfl
theorem bw_258 : (Cond.selects "SweetWraps$Lane" ({ cls := "SweetWraps$Lane", name := "isHeap", desc := "(I)Z" } : MethodName) ({ cls := "SweetWraps$Lane", name := "isHeap", desc := "(I)Z" } : MethodName)) ∈ BIG := big_in2 18 _ rfl rfl
theorem bw_259 : (Cond.code ({ cls := "SweetWraps$Lane", name := "isHeap", desc := "(I)Z" } : MethodName) prog_3_method_3_code (2 : Nat) (Option.some ClassFile.FieldType.boolean)) ∈ BIG := big_in2 19 _ rfl rfl
theorem bw_261 : (Cond.methodLink "SweetWraps$Lane" (46 : Nat) ({ cls := "SweetWraps$Lane", name := "sweetsInHopper", desc := "()I" } : MethodName)) ∈ BIG := big_in2 21 _ rfl rfl
theorem bw_262 : (Cond.instanceMethod ({ cls := "SweetWraps$Lane", name := "sweetsInHopper", desc := "()I" } : MethodName)) ∈ BIG := big_in2 22 _ rfl rfl
theorem bw_263 : (Cond.selects "SweetWraps$Lane" ({ cls := "SweetWraps$Lane", name := "sweetsInHopper", desc := "()I" } : MethodName) ({ cls := "SweetWraps$Lane", name := "sweetsInHopper", desc := "()I" } : MethodName)) ∈ BIG := big_in2 23 _ rfl rfl
theorem bw_264 : (Cond.code ({ cls := "SweetWraps$Lane", name := "sweetsInHopper", desc := "()I" } : MethodName) prog_3_method_5_code (3 : Nat) (Option.some ClassFile.FieldType.int)) ∈ BIG := big_in2 24 _ rfl rfl
theorem bw_265 : (Cond.methodLink "SweetWrapsLaw" (23 : Nat) ({ cls := "SweetWraps", name := "foil", desc := "(II)I" } : MethodName)) ∈ BIG := big_in2 25 _ rfl rfl
theorem bw_266 : (Cond.instanceMethod ({ cls := "SweetWraps", name := "foil", desc := "(II)I" } : MethodName)) ∈ BIG := big_in2 26 _ rfl rfl
theorem bw_267 : (Cond.selects "SweetWraps" ({ cls := "SweetWraps", name := "foil", desc := "(II)I" } : MethodName) ({ cls := "SweetWraps", name := "foil", desc := "(II)I" } : MethodName)) ∈ BIG := big_in2 27 _ rfl rfl
theorem bw_268 : (Cond.code ({ cls := "SweetWraps", name := "foil", desc := "(II)I" } : MethodName) prog_1_method_4_code (3 : Nat) (Option.some ClassFile.FieldType.int)) ∈ BIG := big_in2 28 _ rfl rfl
theorem bw_269 : (Cond.methodLink "SweetWraps" (57 : Nat) ({ cls := "SweetWraps$Machine", name := "addFoil", desc := "(II)I" } : MethodName)) ∈ BIG := big_in2 29 _ rfl rfl
theorem bw_270 : (Cond.instanceMethod ({ cls := "SweetWraps$Machine", name := "addFoil", desc := "(II)I" } : MethodName)) ∈ BIG := big_in2 30 _ rfl rfl
theorem bw_271 : (Cond.selects "SweetWraps$Machine" ({ cls := "SweetWraps$Machine", name := "addFoil", desc := "(II)I" } : MethodName) ({ cls := "SweetWraps$Machine", name := "addFoil", desc := "(II)I" } : MethodName)) ∈ BIG := big_in2 31 _ rfl rfl
theorem bw_272 : (Cond.code ({ cls := "SweetWraps$Machine", name := "addFoil", desc := "(II)I" } : MethodName) prog_4_method_5_code (3 : Nat) (Option.some ClassFile.FieldType.int)) ∈ BIG := big_in2 32 _ rfl rfl
theorem bw_273 : (Cond.methodLink "SweetWrapsLaw" (27 : Nat) ({ cls := "SweetWraps", name := "tin", desc := "()I" } : MethodName)) ∈ BIG := big_in2 33 _ rfl rfl
theorem bw_274 : (Cond.instanceMethod ({ cls := "SweetWraps", name := "tin", desc := "()I" } : MethodName)) ∈ BIG := big_in2 34 _ rfl rfl
theorem bw_275 : (Cond.selects "SweetWraps" ({ cls := "SweetWraps", name := "tin", desc := "()I" } : MethodName) ({ cls := "SweetWraps", name := "tin", desc := "()I" } : MethodName)) ∈ BIG := big_in2 35 _ rfl rfl
theorem bw_276 : (Cond.code ({ cls := "SweetWraps", name := "tin", desc := "()I" } : MethodName) prog_1_method_5_code (1 : Nat) (Option.some ClassFile.FieldType.int)) ∈ BIG := big_in2 36 _ rfl rfl
theorem bw_277 : (Cond.methodLink "SweetWraps" (60 : Nat) ({ cls := "SweetWraps$Machine", name := "addTin", desc := "()I" } : MethodName)) ∈ BIG := big_in2 37 _ rfl rfl
theorem bw_278 : (Cond.instanceMethod ({ cls := "SweetWraps$Machine", name := "addTin", desc := "()I" } : MethodName)) ∈ BIG := big_in2 38 _ rfl rfl
theorem bw_279 : (Cond.selects "SweetWraps$Machine" ({ cls := "SweetWraps$Machine", name := "addTin", desc := "()I" } : MethodName) ({ cls := "SweetWraps$Machine", name := "addTin", desc := "()I" } : MethodName)) ∈ BIG := big_in2 39 _ rfl rfl
theorem bw_280 : (Cond.code ({ cls := "SweetWraps$Machine", name := "addTin", desc := "()I" } : MethodName) prog_4_method_6_code (1 : Nat) (Option.some ClassFile.FieldType.int)) ∈ BIG := big_in2 40 _ rfl rfl
theorem bw_281 : (Cond.methodLink "SweetWrapsLaw" (32 : Nat) ({ cls := "SweetWraps", name := "ship", desc := "(I)I" } : MethodName)) ∈ BIG := big_in2 41 _ rfl rfl
theorem bw_282 : (Cond.instanceMethod ({ cls := "SweetWraps", name := "ship", desc := "(I)I" } : MethodName)) ∈ BIG := big_in2 42 _ rfl rfl
theorem bw_283 : (Cond.selects "SweetWraps" ({ cls := "SweetWraps", name := "ship", desc := "(I)I" } : MethodName) ({ cls := "SweetWraps", name := "ship", desc := "(I)I" } : MethodName)) ∈ BIG := big_in2 43 _ rfl rfl
theorem bw_284 : (Cond.code ({ cls := "SweetWraps", name := "ship", desc := "(I)I" } : MethodName) prog_1_method_6_code (2 : Nat) (Option.some ClassFile.FieldType.int)) ∈ BIG := big_in2 44 _ rfl rfl
theorem bw_285 : (Cond.methodLink "SweetWraps" (64 : Nat) ({ cls := "SweetWraps$Machine", name := "shipTin", desc := "(I)I" } : MethodName)) ∈ BIG := big_in2 45 _ rfl rfl
theorem bw_286 : (Cond.instanceMethod ({ cls := "SweetWraps$Machine", name := "shipTin", desc := "(I)I" } : MethodName)) ∈ BIG := big_in2 46 _ rfl rfl
theorem bw_287 : (Cond.selects "SweetWraps$Machine" ({ cls := "SweetWraps$Machine", name := "shipTin", desc := "(I)I" } : MethodName) ({ cls := "SweetWraps$Machine", name := "shipTin", desc := "(I)I" } : MethodName)) ∈ BIG := big_in2 47 _ rfl rfl
theorem bw_288 : (Cond.code ({ cls := "SweetWraps$Machine", name := "shipTin", desc := "(I)I" } : MethodName) prog_4_method_7_code (2 : Nat) (Option.some ClassFile.FieldType.int)) ∈ BIG := big_in2 48 _ rfl rfl
theorem bw_289 : (Cond.methodLink "SweetWraps$Machine" (77 : Nat) ({ cls := "SweetWraps$Machine", name := "isTin", desc := "(I)Z" } : MethodName)) ∈ BIG := big_in2 49 _ rfl rfl
theorem bw_291 : (Cond.instanceMethod ({ cls := "SweetWraps$Machine", name := "isTin", desc := "(I)Z" } : MethodName)) ∈ BIG := big_in2 51 _ rfl rfl
theorem bw_292 : (Cond.code ({ cls := "SweetWraps$Machine", name := "isTin", desc := "(I)Z" } : MethodName) prog_4_method_22_code (2 : Nat) (Option.some ClassFile.FieldType.boolean)) ∈ BIG := big_in2 52 _ rfl rfl
theorem bw_293 : (Cond.methodLink "SweetWrapsLaw" (37 : Nat) ({ cls := "SweetWraps", name := "apart", desc := "(II)I" } : MethodName)) ∈ BIG := big_in2 53 _ rfl rfl
theorem bw_294 : (Cond.instanceMethod ({ cls := "SweetWraps", name := "apart", desc := "(II)I" } : MethodName)) ∈ BIG := big_in2 54 _ rfl rfl
theorem bw_295 : (Cond.selects "SweetWraps" ({ cls := "SweetWraps", name := "apart", desc := "(II)I" } : MethodName) ({ cls := "SweetWraps", name := "apart", desc := "(II)I" } : MethodName)) ∈ BIG := big_in2 55 _ rfl rfl
theorem bw_296 : (Cond.code ({ cls := "SweetWraps", name := "apart", desc := "(II)I" } : MethodName) prog_1_method_7_code (3 : Nat) (Option.some ClassFile.FieldType.int)) ∈ BIG := big_in2 56 _ rfl rfl
theorem bw_297 : (Cond.methodLink "SweetWraps" (67 : Nat) ({ cls := "SweetWraps$Machine", name := "changeApart", desc := "(II)I" } : MethodName)) ∈ BIG := big_in2 57 _ rfl rfl
theorem bw_298 : (Cond.instanceMethod ({ cls := "SweetWraps$Machine", name := "changeApart", desc := "(II)I" } : MethodName)) ∈ BIG := big_in2 58 _ rfl rfl
theorem bw_299 : (Cond.selects "SweetWraps$Machine" ({ cls := "SweetWraps$Machine", name := "changeApart", desc := "(II)I" } : MethodName) ({ cls := "SweetWraps$Machine", name := "changeApart", desc := "(II)I" } : MethodName)) ∈ BIG := big_in2 59 _ rfl rfl
theorem bw_300 : (Cond.code ({ cls := "SweetWraps$Machine", name := "changeApart", desc := "(II)I" } : MethodName) prog_4_method_8_code (4 : Nat) (Option.some ClassFile.FieldType.int)) ∈ BIG := big_in2 60 _ rfl rfl
theorem bw_301 : (Cond.methodLink "SweetWraps$Machine" (88 : Nat) ({ cls := "SweetWraps$Machine", name := "isOpenTinWithBoth", desc := "(II)Z" } : MethodName)) ∈ BIG := big_in2 61 _ rfl rfl
theorem bw_303 : (Cond.instanceMethod ({ cls := "SweetWraps$Machine", name := "isOpenTinWithBoth", desc := "(II)Z" } : MethodName)) ∈ BIG := big_in2 63 _ rfl rfl
theorem bw_304 : (Cond.code ({ cls := "SweetWraps$Machine", name := "isOpenTinWithBoth", desc := "(II)Z" } : MethodName) prog_4_method_24_code (5 : Nat) (Option.some ClassFile.FieldType.boolean)) ∈ BIG := big_in2 64 _ rfl rfl
theorem bw_305 : (Cond.methodLink "SweetWraps$Machine" (171 : Nat) ({ cls := "SweetWraps$Machine", name := "isOpen", desc := "(I)Z" } : MethodName)) ∈ BIG := big_in2 65 _ rfl rfl
theorem bw_307 : (Cond.instanceMethod ({ cls := "SweetWraps$Machine", name := "isOpen", desc := "(I)Z" } : MethodName)) ∈ BIG := big_in2 67 _ rfl rfl
theorem bw_308 : (Cond.code ({ cls := "SweetWraps$Machine", name := "isOpen", desc := "(I)Z" } : MethodName) prog_4_method_23_code (2 : Nat) (Option.some ClassFile.FieldType.boolean)) ∈ BIG := big_in2 68 _ rfl rfl
theorem bw_309 : (Cond.methodLink "SweetWraps$Machine" (91 : Nat) ({ cls := "SweetWraps$Machine", name := "switchApart", desc := "(II)V" } : MethodName)) ∈ BIG := big_in2 69 _ rfl rfl
theorem bw_310 : (Cond.instanceMethod ({ cls := "SweetWraps$Machine", name := "switchApart", desc := "(II)V" } : MethodName)) ∈ BIG := big_in2 70 _ rfl rfl
theorem bw_311 : (Cond.selects "SweetWraps$Machine" ({ cls := "SweetWraps$Machine", name := "switchApart", desc := "(II)V" } : MethodName) ({ cls := "SweetWraps$Machine", name := "switchApart", desc := "(II)V" } : MethodName)) ∈ BIG := big_in2 71 _ rfl rfl
theorem bw_312 : (Cond.code ({ cls := "SweetWraps$Machine", name := "switchApart", desc := "(II)V" } : MethodName) prog_4_method_9_code (3 : Nat) (Option.none : Option ClassFile.FieldType)) ∈ BIG := big_in2 72 _ rfl rfl
theorem bw_313 : (Cond.methodLink "SweetWrapsLaw" (41 : Nat) ({ cls := "SweetWraps", name := "run", desc := "(I)I" } : MethodName)) ∈ BIG := big_in2 73 _ rfl rfl
theorem bw_314 : (Cond.instanceMethod ({ cls := "SweetWraps", name := "run", desc := "(I)I" } : MethodName)) ∈ BIG := big_in2 74 _ rfl rfl
theorem bw_315 : (Cond.selects "SweetWraps" ({ cls := "SweetWraps", name := "run", desc := "(I)I" } : MethodName) ({ cls := "SweetWraps", name := "run", desc := "(I)I" } : MethodName)) ∈ BIG := big_in2 75 _ rfl rfl
theorem bw_316 : (Cond.code ({ cls := "SweetWraps", name := "run", desc := "(I)I" } : MethodName) prog_1_method_8_code (2 : Nat) (Option.some ClassFile.FieldType.int)) ∈ BIG := big_in2 76 _ rfl rfl
theorem bw_317 : (Cond.methodLink "SweetWraps" (70 : Nat) ({ cls := "SweetWraps$Machine", name := "runTicks", desc := "(I)I" } : MethodName)) ∈ BIG := big_in2 77 _ rfl rfl
theorem bw_318 : (Cond.instanceMethod ({ cls := "SweetWraps$Machine", name := "runTicks", desc := "(I)I" } : MethodName)) ∈ BIG := big_in2 78 _ rfl rfl
theorem bw_319 : (Cond.selects "SweetWraps$Machine" ({ cls := "SweetWraps$Machine", name := "runTicks", desc := "(I)I" } : MethodName) ({ cls := "SweetWraps$Machine", name := "runTicks", desc := "(I)I" } : MethodName)) ∈ BIG := big_in2 79 _ rfl rfl
theorem bw_320 : (Cond.code ({ cls := "SweetWraps$Machine", name := "runTicks", desc := "(I)I" } : MethodName) prog_4_method_10_code (2 : Nat) (Option.some ClassFile.FieldType.int)) ∈ BIG := big_in2 80 _ rfl rfl
theorem bw_321 : (Cond.methodLink "SweetWraps$Machine" (95 : Nat) ({ cls := "SweetWraps$Machine", name := "work", desc := "(I)I" } : MethodName)) ∈ BIG := big_in2 81 _ rfl rfl
theorem bw_322 : (Cond.instanceMethod ({ cls := "SweetWraps$Machine", name := "work", desc := "(I)I" } : MethodName)) ∈ BIG := big_in2 82 _ rfl rfl
theorem bw_323 : (Cond.selects "SweetWraps$Machine" ({ cls := "SweetWraps$Machine", name := "work", desc := "(I)I" } : MethodName) ({ cls := "SweetWraps$Machine", name := "work", desc := "(I)I" } : MethodName)) ∈ BIG := big_in2 83 _ rfl rfl
theorem bw_324 : (Cond.code ({ cls := "SweetWraps$Machine", name := "work", desc := "(I)I" } : MethodName) prog_4_method_11_code (5 : Nat) (Option.some ClassFile.FieldType.int)) ∈ BIG := big_in2 84 _ rfl rfl
theorem bw_325 : (Cond.methodLink "SweetWraps$Machine" (99 : Nat) ({ cls := "SweetWraps$Machine", name := "workLane", desc := "(LSweetWraps$Lane;)I" } : MethodName)) ∈ BIG := big_in2 85 _ rfl rfl
theorem bw_327 : (Cond.instanceMethod ({ cls := "SweetWraps$Machine", name := "workLane", desc := "(LSweetWraps$Lane;)I" } : MethodName)) ∈ BIG := big_in2 87 _ rfl rfl
theorem bw_328 : (Cond.code ({ cls := "SweetWraps$Machine", name := "workLane", desc := "(LSweetWraps$Lane;)I" } : MethodName) prog_4_method_12_code (8 : Nat) (Option.some ClassFile.FieldType.int)) ∈ BIG := big_in2 88 _ rfl rfl
theorem bw_329 : (Cond.methodLink "SweetWraps$Machine" (103 : Nat) ({ cls := "SweetWraps$Machine", name := "foilOfPull", desc := "()I" } : MethodName)) ∈ BIG := big_in2 89 _ rfl rfl
theorem bw_331 : (Cond.instanceMethod ({ cls := "SweetWraps$Machine", name := "foilOfPull", desc := "()I" } : MethodName)) ∈ BIG := big_in2 91 _ rfl rfl
theorem bw_332 : (Cond.code ({ cls := "SweetWraps$Machine", name := "foilOfPull", desc := "()I" } : MethodName) prog_4_method_13_code (1 : Nat) (Option.some ClassFile.FieldType.int)) ∈ BIG := big_in2 92 _ rfl rfl
theorem bw_333 : (Cond.methodLink "SweetWraps$Machine" (107 : Nat) ({ cls := "SweetWraps$Machine", name := "pullsUntilTear", desc := "()I" } : MethodName)) ∈ BIG := big_in2 93 _ rfl rfl
theorem bw_335 : (Cond.instanceMethod ({ cls := "SweetWraps$Machine", name := "pullsUntilTear", desc := "()I" } : MethodName)) ∈ BIG := big_in2 95 _ rfl rfl
theorem bw_336 : (Cond.code ({ cls := "SweetWraps$Machine", name := "pullsUntilTear", desc := "()I" } : MethodName) prog_4_method_14_code (2 : Nat) (Option.some ClassFile.FieldType.int)) ∈ BIG := big_in2 96 _ rfl rfl
theorem bw_337 : (Cond.methodLink "SweetWraps$Machine" (133 : Nat) ({ cls := "java/lang/Math", name := "max", desc := "(II)I" } : MethodName)) ∈ BIG := big_in2 97 _ rfl rfl
theorem bw_338 : (Cond.static ({ cls := "java/lang/Math", name := "max", desc := "(II)I" } : MethodName)) ∈ BIG := big_in2 98 _ rfl rfl
theorem bw_339 : (Cond.code ({ cls := "java/lang/Math", name := "max", desc := "(II)I" } : MethodName) prog_9_method_65_code (2 : Nat) (Option.some ClassFile.FieldType.int)) ∈ BIG := big_in2 99 _ rfl rfl
theorem bw_340 : (Cond.methodLink "SweetWraps$Machine" (113 : Nat) ({ cls := "SweetWraps$Lane", name := "nextFlavour", desc := "()I" } : MethodName)) ∈ BIG := big_in2 100 _ rfl rfl
theorem bw_341 : (Cond.instanceMethod ({ cls := "SweetWraps$Lane", name := "nextFlavour", desc := "()I" } : MethodName)) ∈ BIG := big_in2 101 _ rfl rfl
theorem bw_342 : (Cond.selects "SweetWraps$Lane" ({ cls := "SweetWraps$Lane", name := "nextFlavour", desc := "()I" } : MethodName) ({ cls := "SweetWraps$Lane", name := "nextFlavour", desc := "()I" } : MethodName)) ∈ BIG := big_in2 102 _ rfl rfl
theorem bw_343 : (Cond.code ({ cls := "SweetWraps$Lane", name := "nextFlavour", desc := "()I" } : MethodName) prog_3_method_4_code (1 : Nat) (Option.some ClassFile.FieldType.int)) ∈ BIG := big_in2 103 _ rfl rfl
theorem bw_344 : (Cond.methodLink "SweetWraps$Machine" (116 : Nat) ({ cls := "SweetWraps$Machine", name := "tinFor", desc := "(I)I" } : MethodName)) ∈ BIG := big_in2 104 _ rfl rfl
theorem bw_346 : (Cond.instanceMethod ({ cls := "SweetWraps$Machine", name := "tinFor", desc := "(I)I" } : MethodName)) ∈ BIG := big_in2 106 _ rfl rfl
theorem bw_347 : (Cond.code ({ cls := "SweetWraps$Machine", name := "tinFor", desc := "(I)I" } : MethodName) prog_4_method_17_code (3 : Nat) (Option.some ClassFile.FieldType.int)) ∈ BIG := big_in2 107 _ rfl rfl
theorem bw_348 : (Cond.methodLink "SweetWraps$Machine" (141 : Nat) ({ cls := "SweetWraps$Tin", name := "hasRoomFor", desc := "(II)Z" } : MethodName)) ∈ BIG := big_in2 108 _ rfl rfl
theorem bw_349 : (Cond.instanceMethod ({ cls := "SweetWraps$Tin", name := "hasRoomFor", desc := "(II)Z" } : MethodName)) ∈ BIG := big_in2 109 _ rfl rfl
theorem bw_350 : (Cond.selects "SweetWraps$Tin" ({ cls := "SweetWraps$Tin", name := "hasRoomFor", desc := "(II)Z" } : MethodName) ({ cls := "SweetWraps$Tin", name := "hasRoomFor", desc := "(II)Z" } : MethodName)) ∈ BIG := big_in2 110 _ rfl rfl
theorem bw_351 : (Cond.code ({ cls := "SweetWraps$Tin", name := "hasRoomFor", desc := "(II)Z" } : MethodName) prog_6_method_3_code (3 : Nat) (Option.some ClassFile.FieldType.boolean)) ∈ BIG := big_in2 111 _ rfl rfl
theorem bw_352 : (Cond.methodLink "SweetWraps$Machine" (119 : Nat) ({ cls := "SweetWraps$Machine", name := "reasonOf", desc := "(LSweetWraps$Lane;I)I" } : MethodName)) ∈ BIG := big_in2 112 _ rfl rfl
theorem bw_354 : (Cond.instanceMethod ({ cls := "SweetWraps$Machine", name := "reasonOf", desc := "(LSweetWraps$Lane;I)I" } : MethodName)) ∈ BIG := big_in2 114 _ rfl rfl
theorem bw_355 : (Cond.code ({ cls := "SweetWraps$Machine", name := "reasonOf", desc := "(LSweetWraps$Lane;I)I" } : MethodName) prog_4_method_15_code (3 : Nat) (Option.some ClassFile.FieldType.int)) ∈ BIG := big_in2 115 _ rfl rfl
theorem bw_356 : (Cond.methodLink "SweetWraps$Machine" (123 : Nat) ({ cls := "SweetWraps$Lane", name := "pullTears", desc := "(II)Z" } : MethodName)) ∈ BIG := big_in2 116 _ rfl rfl
theorem bw_357 : (Cond.instanceMethod ({ cls := "SweetWraps$Lane", name := "pullTears", desc := "(II)Z" } : MethodName)) ∈ BIG := big_in2 117 _ rfl rfl
theorem bw_358 : (Cond.selects "SweetWraps$Lane" ({ cls := "SweetWraps$Lane", name := "pullTears", desc := "(II)Z" } : MethodName) ({ cls := "SweetWraps$Lane", name := "pullTears", desc := "(II)Z" } : MethodName)) ∈ BIG := big_in2 118 _ rfl rfl
theorem bw_359 : (Cond.code ({ cls := "SweetWraps$Lane", name := "pullTears", desc := "(II)Z" } : MethodName) prog_3_method_8_code (3 : Nat) (Option.some ClassFile.FieldType.boolean)) ∈ BIG := big_in2 119 _ rfl rfl
theorem bw_360 : (Cond.methodLink "SweetWraps$Machine" (126 : Nat) ({ cls := "SweetWraps$Tin", name := "add", desc := "(I)V" } : MethodName)) ∈ BIG := big_in2 120 _ rfl rfl
theorem bw_361 : (Cond.instanceMethod ({ cls := "SweetWraps$Tin", name := "add", desc := "(I)V" } : MethodName)) ∈ BIG := big_in2 121 _ rfl rfl
theorem bw_362 : (Cond.selects "SweetWraps$Tin" ({ cls := "SweetWraps$Tin", name := "add", desc := "(I)V" } : MethodName) ({ cls := "SweetWraps$Tin", name := "add", desc := "(I)V" } : MethodName)) ∈ BIG := big_in2 122 _ rfl rfl
theorem bw_363 : (Cond.code ({ cls := "SweetWraps$Tin", name := "add", desc := "(I)V" } : MethodName) prog_6_method_4_code (2 : Nat) (Option.none : Option ClassFile.FieldType)) ∈ BIG := big_in2 123 _ rfl rfl
theorem bw_365 : (Cond.methodLink "SweetWraps$Machine" (130 : Nat) ({ cls := "SweetWraps$Lane", name := "wrapNext", desc := "()V" } : MethodName)) ∈ BIG := big_in2 125 _ rfl rfl
theorem bw_366 : (Cond.instanceMethod ({ cls := "SweetWraps$Lane", name := "wrapNext", desc := "()V" } : MethodName)) ∈ BIG := big_in2 126 _ rfl rfl
theorem bw_367 : (Cond.selects "SweetWraps$Lane" ({ cls := "SweetWraps$Lane", name := "wrapNext", desc := "()V" } : MethodName) ({ cls := "SweetWraps$Lane", name := "wrapNext", desc := "()V" } : MethodName)) ∈ BIG := big_in2 127 _ rfl rfl
theorem bw_368 : (Cond.code ({ cls := "SweetWraps$Lane", name := "wrapNext", desc := "()V" } : MethodName) prog_3_method_9_code (2 : Nat) (Option.none : Option ClassFile.FieldType)) ∈ BIG := big_in2 128 _ rfl rfl
theorem bw_369 : (Cond.methodLink "SweetWrapsLaw" (45 : Nat) ({ cls := "SweetWraps", name := "of", desc := "(II)I" } : MethodName)) ∈ BIG := big_in2 129 _ rfl rfl
theorem bw_370 : (Cond.instanceMethod ({ cls := "SweetWraps", name := "of", desc := "(II)I" } : MethodName)) ∈ BIG := big_in2 130 _ rfl rfl
theorem bw_371 : (Cond.selects "SweetWraps" ({ cls := "SweetWraps", name := "of", desc := "(II)I" } : MethodName) ({ cls := "SweetWraps", name := "of", desc := "(II)I" } : MethodName)) ∈ BIG := big_in2 131 _ rfl rfl
theorem bw_372 : (Cond.code ({ cls := "SweetWraps", name := "of", desc := "(II)I" } : MethodName) prog_1_method_9_code (3 : Nat) (Option.some ClassFile.FieldType.int)) ∈ BIG := big_in2 132 _ rfl rfl
theorem bw_373 : (Cond.methodLink "SweetWraps" (73 : Nat) ({ cls := "SweetWraps$Machine", name := "laneFact", desc := "(II)I" } : MethodName)) ∈ BIG := big_in2 133 _ rfl rfl
theorem bw_374 : (Cond.instanceMethod ({ cls := "SweetWraps$Machine", name := "laneFact", desc := "(II)I" } : MethodName)) ∈ BIG := big_in2 134 _ rfl rfl
theorem bw_375 : (Cond.selects "SweetWraps$Machine" ({ cls := "SweetWraps$Machine", name := "laneFact", desc := "(II)I" } : MethodName) ({ cls := "SweetWraps$Machine", name := "laneFact", desc := "(II)I" } : MethodName)) ∈ BIG := big_in2 135 _ rfl rfl
theorem bw_376 : (Cond.code ({ cls := "SweetWraps$Machine", name := "laneFact", desc := "(II)I" } : MethodName) prog_4_method_18_code (4 : Nat) (Option.some ClassFile.FieldType.int)) ∈ BIG := big_in2 136 _ rfl rfl
theorem bw_377 : (Cond.methodLink "SweetWraps$Machine" (144 : Nat) ({ cls := "SweetWraps$Lane", name := "sweetsInHopper", desc := "()I" } : MethodName)) ∈ BIG := big_in2 137 _ rfl rfl
theorem bw_378 : (Cond.methodLink "SweetWraps$Machine" (156 : Nat) ({ cls := "SweetWraps$Machine", name := "reasonNow", desc := "(LSweetWraps$Lane;)I" } : MethodName)) ∈ BIG := big_in2 138 _ rfl rfl
theorem bw_380 : (Cond.instanceMethod ({ cls := "SweetWraps$Machine", name := "reasonNow", desc := "(LSweetWraps$Lane;)I" } : MethodName)) ∈ BIG := big_in2 140 _ rfl rfl
theorem bw_381 : (Cond.code ({ cls := "SweetWraps$Machine", name := "reasonNow", desc := "(LSweetWraps$Lane;)I" } : MethodName) prog_4_method_16_code (2 : Nat) (Option.some ClassFile.FieldType.int)) ∈ BIG := big_in2 141 _ rfl rfl
theorem bw_382 : (Cond.methodLink "SweetWrapsLaw" (49 : Nat) ({ cls := "SweetWraps", name := "ofHeap", desc := "(III)I" } : MethodName)) ∈ BIG := big_in2 142 _ rfl rfl
theorem bw_383 : (Cond.instanceMethod ({ cls := "SweetWraps", name := "ofHeap", desc := "(III)I" } : MethodName)) ∈ BIG := big_in2 143 _ rfl rfl
theorem bw_384 : (Cond.selects "SweetWraps" ({ cls := "SweetWraps", name := "ofHeap", desc := "(III)I" } : MethodName) ({ cls := "SweetWraps", name := "ofHeap", desc := "(III)I" } : MethodName)) ∈ BIG := big_in2 144 _ rfl rfl
theorem bw_385 : (Cond.code ({ cls := "SweetWraps", name := "ofHeap", desc := "(III)I" } : MethodName) prog_1_method_10_code (4 : Nat) (Option.some ClassFile.FieldType.int)) ∈ BIG := big_in2 145 _ rfl rfl
theorem bw_386 : (Cond.methodLink "SweetWraps" (76 : Nat) ({ cls := "SweetWraps$Machine", name := "heapFact", desc := "(III)I" } : MethodName)) ∈ BIG := big_in2 146 _ rfl rfl
theorem bw_387 : (Cond.instanceMethod ({ cls := "SweetWraps$Machine", name := "heapFact", desc := "(III)I" } : MethodName)) ∈ BIG := big_in2 147 _ rfl rfl
theorem bw_388 : (Cond.selects "SweetWraps$Machine" ({ cls := "SweetWraps$Machine", name := "heapFact", desc := "(III)I" } : MethodName) ({ cls := "SweetWraps$Machine", name := "heapFact", desc := "(III)I" } : MethodName)) ∈ BIG := big_in2 148 _ rfl rfl
theorem bw_389 : (Cond.code ({ cls := "SweetWraps$Machine", name := "heapFact", desc := "(III)I" } : MethodName) prog_4_method_19_code (4 : Nat) (Option.some ClassFile.FieldType.int)) ∈ BIG := big_in2 149 _ rfl rfl
theorem bw_390 : (Cond.methodLink "SweetWraps$Machine" (159 : Nat) ({ cls := "SweetWraps$Lane", name := "isHeap", desc := "(I)Z" } : MethodName)) ∈ BIG := big_in2 150 _ rfl rfl
theorem bw_391 : (Cond.methodLink "SweetWrapsLaw" (53 : Nat) ({ cls := "SweetWraps", name := "ofTin", desc := "(II)I" } : MethodName)) ∈ BIG := big_in2 151 _ rfl rfl
theorem bw_392 : (Cond.instanceMethod ({ cls := "SweetWraps", name := "ofTin", desc := "(II)I" } : MethodName)) ∈ BIG := big_in2 152 _ rfl rfl
theorem bw_393 : (Cond.selects "SweetWraps" ({ cls := "SweetWraps", name := "ofTin", desc := "(II)I" } : MethodName) ({ cls := "SweetWraps", name := "ofTin", desc := "(II)I" } : MethodName)) ∈ BIG := big_in2 153 _ rfl rfl
theorem bw_394 : (Cond.code ({ cls := "SweetWraps", name := "ofTin", desc := "(II)I" } : MethodName) prog_1_method_11_code (3 : Nat) (Option.some ClassFile.FieldType.int)) ∈ BIG := big_in2 154 _ rfl rfl
theorem bw_395 : (Cond.methodLink "SweetWraps" (79 : Nat) ({ cls := "SweetWraps$Machine", name := "tinFact", desc := "(II)I" } : MethodName)) ∈ BIG := big_in2 155 _ rfl rfl
theorem bw_396 : (Cond.instanceMethod ({ cls := "SweetWraps$Machine", name := "tinFact", desc := "(II)I" } : MethodName)) ∈ BIG := big_in2 156 _ rfl rfl
theorem bw_397 : (Cond.selects "SweetWraps$Machine" ({ cls := "SweetWraps$Machine", name := "tinFact", desc := "(II)I" } : MethodName) ({ cls := "SweetWraps$Machine", name := "tinFact", desc := "(II)I" } : MethodName)) ∈ BIG := big_in2 157 _ rfl rfl
theorem bw_398 : (Cond.code ({ cls := "SweetWraps$Machine", name := "tinFact", desc := "(II)I" } : MethodName) prog_4_method_25_code (3 : Nat) (Option.some ClassFile.FieldType.int)) ∈ BIG := big_in2 158 _ rfl rfl
theorem bw_399 : (Cond.methodLink "SweetWraps$Machine" (176 : Nat) ({ cls := "SweetWraps$Machine", name := "flavoursTakenBy", desc := "(LSweetWraps$Tin;)I" } : MethodName)) ∈ BIG := big_in2 159 _ rfl rfl
theorem bw_401 : (Cond.instanceMethod ({ cls := "SweetWraps$Machine", name := "flavoursTakenBy", desc := "(LSweetWraps$Tin;)I" } : MethodName)) ∈ BIG := big_in2 161 _ rfl rfl
theorem bw_402 : (Cond.code ({ cls := "SweetWraps$Machine", name := "flavoursTakenBy", desc := "(LSweetWraps$Tin;)I" } : MethodName) prog_4_method_26_code (4 : Nat) (Option.some ClassFile.FieldType.int)) ∈ BIG := big_in2 162 _ rfl rfl
theorem bw_403 : (Cond.methodLink "SweetWrapsLaw" (57 : Nat) ({ cls := "SweetWraps", name := "inTin", desc := "(II)I" } : MethodName)) ∈ BIG := big_in2 163 _ rfl rfl
theorem bw_404 : (Cond.instanceMethod ({ cls := "SweetWraps", name := "inTin", desc := "(II)I" } : MethodName)) ∈ BIG := big_in2 164 _ rfl rfl
theorem bw_405 : (Cond.selects "SweetWraps" ({ cls := "SweetWraps", name := "inTin", desc := "(II)I" } : MethodName) ({ cls := "SweetWraps", name := "inTin", desc := "(II)I" } : MethodName)) ∈ BIG := big_in2 165 _ rfl rfl
theorem bw_406 : (Cond.code ({ cls := "SweetWraps", name := "inTin", desc := "(II)I" } : MethodName) prog_1_method_12_code (3 : Nat) (Option.some ClassFile.FieldType.int)) ∈ BIG := big_in2 166 _ rfl rfl
theorem bw_407 : (Cond.methodLink "SweetWraps" (82 : Nat) ({ cls := "SweetWraps$Machine", name := "sweetsInTin", desc := "(II)I" } : MethodName)) ∈ BIG := big_in2 167 _ rfl rfl
theorem bw_408 : (Cond.instanceMethod ({ cls := "SweetWraps$Machine", name := "sweetsInTin", desc := "(II)I" } : MethodName)) ∈ BIG := big_in2 168 _ rfl rfl
theorem bw_409 : (Cond.selects "SweetWraps$Machine" ({ cls := "SweetWraps$Machine", name := "sweetsInTin", desc := "(II)I" } : MethodName) ({ cls := "SweetWraps$Machine", name := "sweetsInTin", desc := "(II)I" } : MethodName)) ∈ BIG := big_in2 169 _ rfl rfl
theorem bw_410 : (Cond.code ({ cls := "SweetWraps$Machine", name := "sweetsInTin", desc := "(II)I" } : MethodName) prog_4_method_27_code (3 : Nat) (Option.some ClassFile.FieldType.int)) ∈ BIG := big_in2 170 _ rfl rfl
theorem bw_411 : (Cond.methodLink "SweetWrapsLaw" (61 : Nat) ({ cls := "SweetWraps", name := "flavour", desc := "(II)I" } : MethodName)) ∈ BIG := big_in2 171 _ rfl rfl
theorem bw_412 : (Cond.instanceMethod ({ cls := "SweetWraps", name := "flavour", desc := "(II)I" } : MethodName)) ∈ BIG := big_in2 172 _ rfl rfl
theorem bw_413 : (Cond.selects "SweetWraps" ({ cls := "SweetWraps", name := "flavour", desc := "(II)I" } : MethodName) ({ cls := "SweetWraps", name := "flavour", desc := "(II)I" } : MethodName)) ∈ BIG := big_in2 173 _ rfl rfl
theorem bw_414 : (Cond.code ({ cls := "SweetWraps", name := "flavour", desc := "(II)I" } : MethodName) prog_1_method_13_code (3 : Nat) (Option.some ClassFile.FieldType.int)) ∈ BIG := big_in2 174 _ rfl rfl
theorem bw_415 : (Cond.methodLink "SweetWraps" (85 : Nat) ({ cls := "SweetWraps$Machine", name := "flavourFact", desc := "(II)I" } : MethodName)) ∈ BIG := big_in2 175 _ rfl rfl
theorem bw_416 : (Cond.instanceMethod ({ cls := "SweetWraps$Machine", name := "flavourFact", desc := "(II)I" } : MethodName)) ∈ BIG := big_in2 176 _ rfl rfl
theorem bw_417 : (Cond.selects "SweetWraps$Machine" ({ cls := "SweetWraps$Machine", name := "flavourFact", desc := "(II)I" } : MethodName) ({ cls := "SweetWraps$Machine", name := "flavourFact", desc := "(II)I" } : MethodName)) ∈ BIG := big_in2 177 _ rfl rfl
theorem bw_418 : (Cond.code ({ cls := "SweetWraps$Machine", name := "flavourFact", desc := "(II)I" } : MethodName) prog_4_method_32_code (3 : Nat) (Option.some ClassFile.FieldType.int)) ∈ BIG := big_in2 178 _ rfl rfl
theorem bw_419 : (Cond.methodLink "SweetWraps$Machine" (188 : Nat) ({ cls := "SweetWraps$Machine", name := "sweetsInHoppers", desc := "(I)I" } : MethodName)) ∈ BIG := big_in2 179 _ rfl rfl
theorem bw_421 : (Cond.instanceMethod ({ cls := "SweetWraps$Machine", name := "sweetsInHoppers", desc := "(I)I" } : MethodName)) ∈ BIG := big_in2 181 _ rfl rfl
theorem bw_422 : (Cond.code ({ cls := "SweetWraps$Machine", name := "sweetsInHoppers", desc := "(I)I" } : MethodName) prog_4_method_33_code (4 : Nat) (Option.some ClassFile.FieldType.int)) ∈ BIG := big_in2 182 _ rfl rfl
theorem bw_423 : (Cond.methodLink "SweetWraps$Machine" (191 : Nat) ({ cls := "SweetWraps$Lane", name := "sweetsOf", desc := "(I)I" } : MethodName)) ∈ BIG := big_in2 183 _ rfl rfl
theorem bw_424 : (Cond.instanceMethod ({ cls := "SweetWraps$Lane", name := "sweetsOf", desc := "(I)I" } : MethodName)) ∈ BIG := big_in2 184 _ rfl rfl
theorem bw_425 : (Cond.selects "SweetWraps$Lane" ({ cls := "SweetWraps$Lane", name := "sweetsOf", desc := "(I)I" } : MethodName) ({ cls := "SweetWraps$Lane", name := "sweetsOf", desc := "(I)I" } : MethodName)) ∈ BIG := big_in2 185 _ rfl rfl
theorem bw_426 : (Cond.code ({ cls := "SweetWraps$Lane", name := "sweetsOf", desc := "(I)I" } : MethodName) prog_3_method_6_code (4 : Nat) (Option.some ClassFile.FieldType.int)) ∈ BIG := big_in2 186 _ rfl rfl
theorem bw_427 : (Cond.methodLink "SweetWraps$Machine" (181 : Nat) ({ cls := "SweetWraps$Machine", name := "sweetsInTins", desc := "(IZ)I" } : MethodName)) ∈ BIG := big_in2 187 _ rfl rfl
theorem bw_429 : (Cond.instanceMethod ({ cls := "SweetWraps$Machine", name := "sweetsInTins", desc := "(IZ)I" } : MethodName)) ∈ BIG := big_in2 189 _ rfl rfl
theorem bw_430 : (Cond.code ({ cls := "SweetWraps$Machine", name := "sweetsInTins", desc := "(IZ)I" } : MethodName) prog_4_method_34_code (5 : Nat) (Option.some ClassFile.FieldType.int)) ∈ BIG := big_in2 190 _ rfl rfl
theorem bw_431 : (Cond.methodLink "SweetWrapsLaw" (65 : Nat) ({ cls := "SweetWraps", name := "byRoom", desc := "(I)I" } : MethodName)) ∈ BIG := big_in2 191 _ rfl rfl
theorem bw_432 : (Cond.instanceMethod ({ cls := "SweetWraps", name := "byRoom", desc := "(I)I" } : MethodName)) ∈ BIG := big_in2 192 _ rfl rfl
theorem bw_433 : (Cond.selects "SweetWraps" ({ cls := "SweetWraps", name := "byRoom", desc := "(I)I" } : MethodName) ({ cls := "SweetWraps", name := "byRoom", desc := "(I)I" } : MethodName)) ∈ BIG := big_in2 193 _ rfl rfl
theorem bw_434 : (Cond.code ({ cls := "SweetWraps", name := "byRoom", desc := "(I)I" } : MethodName) prog_1_method_14_code (2 : Nat) (Option.some ClassFile.FieldType.int)) ∈ BIG := big_in2 194 _ rfl rfl
theorem bw_435 : (Cond.methodLink "SweetWraps" (88 : Nat) ({ cls := "SweetWraps$Machine", name := "tinOfRank", desc := "(I)I" } : MethodName)) ∈ BIG := big_in2 195 _ rfl rfl
theorem bw_436 : (Cond.instanceMethod ({ cls := "SweetWraps$Machine", name := "tinOfRank", desc := "(I)I" } : MethodName)) ∈ BIG := big_in2 196 _ rfl rfl
theorem bw_437 : (Cond.selects "SweetWraps$Machine" ({ cls := "SweetWraps$Machine", name := "tinOfRank", desc := "(I)I" } : MethodName) ({ cls := "SweetWraps$Machine", name := "tinOfRank", desc := "(I)I" } : MethodName)) ∈ BIG := big_in2 197 _ rfl rfl
theorem bw_438 : (Cond.code ({ cls := "SweetWraps$Machine", name := "tinOfRank", desc := "(I)I" } : MethodName) prog_4_method_30_code (3 : Nat) (Option.some ClassFile.FieldType.int)) ∈ BIG := big_in2 198 _ rfl rfl
theorem bw_439 : (Cond.methodLink "SweetWraps$Machine" (185 : Nat) ({ cls := "SweetWraps$Machine", name := "openTinsAhead", desc := "(I)I" } : MethodName)) ∈ BIG := big_in2 199 _ rfl rfl
theorem bw_441 : (Cond.instanceMethod ({ cls := "SweetWraps$Machine", name := "openTinsAhead", desc := "(I)I" } : MethodName)) ∈ BIG := big_in2 201 _ rfl rfl
theorem bw_442 : (Cond.code ({ cls := "SweetWraps$Machine", name := "openTinsAhead", desc := "(I)I" } : MethodName) prog_4_method_31_code (5 : Nat) (Option.some ClassFile.FieldType.int)) ∈ BIG := big_in2 202 _ rfl rfl
theorem bw_443 : (Cond.methodLink "SweetWrapsLaw" (69 : Nat) ({ cls := "SweetWraps", name := "byCount", desc := "(I)I" } : MethodName)) ∈ BIG := big_in2 203 _ rfl rfl
theorem bw_444 : (Cond.instanceMethod ({ cls := "SweetWraps", name := "byCount", desc := "(I)I" } : MethodName)) ∈ BIG := big_in2 204 _ rfl rfl
theorem bw_445 : (Cond.selects "SweetWraps" ({ cls := "SweetWraps", name := "byCount", desc := "(I)I" } : MethodName) ({ cls := "SweetWraps", name := "byCount", desc := "(I)I" } : MethodName)) ∈ BIG := big_in2 205 _ rfl rfl
theorem bw_446 : (Cond.code ({ cls := "SweetWraps", name := "byCount", desc := "(I)I" } : MethodName) prog_1_method_15_code (2 : Nat) (Option.some ClassFile.FieldType.int)) ∈ BIG := big_in2 206 _ rfl rfl
theorem bw_447 : (Cond.methodLink "SweetWraps" (91 : Nat) ({ cls := "SweetWraps$Machine", name := "flavourOfRank", desc := "(I)I" } : MethodName)) ∈ BIG := big_in2 207 _ rfl rfl
theorem bw_448 : (Cond.instanceMethod ({ cls := "SweetWraps$Machine", name := "flavourOfRank", desc := "(I)I" } : MethodName)) ∈ BIG := big_in2 208 _ rfl rfl
theorem bw_449 : (Cond.selects "SweetWraps$Machine" ({ cls := "SweetWraps$Machine", name := "flavourOfRank", desc := "(I)I" } : MethodName) ({ cls := "SweetWraps$Machine", name := "flavourOfRank", desc := "(I)I" } : MethodName)) ∈ BIG := big_in2 209 _ rfl rfl
theorem bw_450 : (Cond.code ({ cls := "SweetWraps$Machine", name := "flavourOfRank", desc := "(I)I" } : MethodName) prog_4_method_36_code (3 : Nat) (Option.some ClassFile.FieldType.int)) ∈ BIG := big_in2 210 _ rfl rfl
theorem bw_451 : (Cond.methodLink "SweetWraps$Machine" (194 : Nat) ({ cls := "SweetWraps$Machine", name := "sweetsInAllTins", desc := "(I)I" } : MethodName)) ∈ BIG := big_in2 211 _ rfl rfl
theorem bw_453 : (Cond.instanceMethod ({ cls := "SweetWraps$Machine", name := "sweetsInAllTins", desc := "(I)I" } : MethodName)) ∈ BIG := big_in2 213 _ rfl rfl
theorem bw_454 : (Cond.code ({ cls := "SweetWraps$Machine", name := "sweetsInAllTins", desc := "(I)I" } : MethodName) prog_4_method_35_code (2 : Nat) (Option.some ClassFile.FieldType.int)) ∈ BIG := big_in2 214 _ rfl rfl
theorem bw_455 : (Cond.methodLink "SweetWraps$Machine" (197 : Nat) ({ cls := "SweetWraps$Machine", name := "flavoursAhead", desc := "(I)I" } : MethodName)) ∈ BIG := big_in2 215 _ rfl rfl
theorem bw_457 : (Cond.instanceMethod ({ cls := "SweetWraps$Machine", name := "flavoursAhead", desc := "(I)I" } : MethodName)) ∈ BIG := big_in2 217 _ rfl rfl
theorem bw_458 : (Cond.code ({ cls := "SweetWraps$Machine", name := "flavoursAhead", desc := "(I)I" } : MethodName) prog_4_method_37_code (6 : Nat) (Option.some ClassFile.FieldType.int)) ∈ BIG := big_in2 218 _ rfl rfl
theorem bw_459 : (Cond.methodLink "SweetWrapsLaw" (73 : Nat) ({ cls := "SweetWraps", name := "count", desc := "(I)I" } : MethodName)) ∈ BIG := big_in2 219 _ rfl rfl
theorem bw_460 : (Cond.instanceMethod ({ cls := "SweetWraps", name := "count", desc := "(I)I" } : MethodName)) ∈ BIG := big_in2 220 _ rfl rfl
theorem bw_461 : (Cond.selects "SweetWraps" ({ cls := "SweetWraps", name := "count", desc := "(I)I" } : MethodName) ({ cls := "SweetWraps", name := "count", desc := "(I)I" } : MethodName)) ∈ BIG := big_in2 221 _ rfl rfl
theorem bw_462 : (Cond.code ({ cls := "SweetWraps", name := "count", desc := "(I)I" } : MethodName) prog_1_method_16_code (2 : Nat) (Option.some ClassFile.FieldType.int)) ∈ BIG := big_in2 222 _ rfl rfl
theorem bw_463 : (Cond.methodLink "SweetWraps" (101 : Nat) ({ cls := "SweetWraps$Machine", name := "number", desc := "(I)I" } : MethodName)) ∈ BIG := big_in2 223 _ rfl rfl
theorem bw_464 : (Cond.instanceMethod ({ cls := "SweetWraps$Machine", name := "number", desc := "(I)I" } : MethodName)) ∈ BIG := big_in2 224 _ rfl rfl
theorem bw_465 : (Cond.selects "SweetWraps$Machine" ({ cls := "SweetWraps$Machine", name := "number", desc := "(I)I" } : MethodName) ({ cls := "SweetWraps$Machine", name := "number", desc := "(I)I" } : MethodName)) ∈ BIG := big_in2 225 _ rfl rfl
theorem bw_466 : (Cond.code ({ cls := "SweetWraps$Machine", name := "number", desc := "(I)I" } : MethodName) prog_4_method_39_code (2 : Nat) (Option.some ClassFile.FieldType.int)) ∈ BIG := big_in2 226 _ rfl rfl
theorem bw_467 : (Cond.methodLink "SweetWraps$Machine" (200 : Nat) ({ cls := "SweetWraps$Machine", name := "tinsThatAre", desc := "(Z)I" } : MethodName)) ∈ BIG := big_in2 227 _ rfl rfl
theorem bw_469 : (Cond.instanceMethod ({ cls := "SweetWraps$Machine", name := "tinsThatAre", desc := "(Z)I" } : MethodName)) ∈ BIG := big_in2 229 _ rfl rfl
theorem bw_470 : (Cond.code ({ cls := "SweetWraps$Machine", name := "tinsThatAre", desc := "(Z)I" } : MethodName) prog_4_method_28_code (4 : Nat) (Option.some ClassFile.FieldType.int)) ∈ BIG := big_in2 230 _ rfl rfl
theorem bw_471 : (Cond.methodLink "SweetWraps$Machine" (204 : Nat) ({ cls := "SweetWraps$Machine", name := "overLanes", desc := "(I)I" } : MethodName)) ∈ BIG := big_in2 231 _ rfl rfl
theorem bw_473 : (Cond.instanceMethod ({ cls := "SweetWraps$Machine", name := "overLanes", desc := "(I)I" } : MethodName)) ∈ BIG := big_in2 233 _ rfl rfl
theorem bw_474 : (Cond.code ({ cls := "SweetWraps$Machine", name := "overLanes", desc := "(I)I" } : MethodName) prog_4_method_20_code (4 : Nat) (Option.some ClassFile.FieldType.int)) ∈ BIG := big_in2 234 _ rfl rfl
theorem bw_475 : (Cond.methodLink "SweetWraps$Machine" (168 : Nat) ({ cls := "SweetWraps$Machine", name := "laneFact", desc := "(II)I" } : MethodName)) ∈ BIG := big_in2 235 _ rfl rfl
theorem bw_476 : (Cond.methodLink "SweetWraps$Machine" (207 : Nat) ({ cls := "SweetWraps$Machine", name := "sweetsShipped", desc := "()I" } : MethodName)) ∈ BIG := big_in2 236 _ rfl rfl
theorem bw_478 : (Cond.instanceMethod ({ cls := "SweetWraps$Machine", name := "sweetsShipped", desc := "()I" } : MethodName)) ∈ BIG := big_in2 238 _ rfl rfl
theorem bw_479 : (Cond.code ({ cls := "SweetWraps$Machine", name := "sweetsShipped", desc := "()I" } : MethodName) prog_4_method_29_code (3 : Nat) (Option.some ClassFile.FieldType.int)) ∈ BIG := big_in2 239 _ rfl rfl
theorem bw_480 : (Cond.methodLink "SweetWraps$Machine" (210 : Nat) ({ cls := "SweetWraps$Machine", name := "standingLanes", desc := "()I" } : MethodName)) ∈ BIG := big_in3 0 _ rfl rfl
theorem bw_482 : (Cond.instanceMethod ({ cls := "SweetWraps$Machine", name := "standingLanes", desc := "()I" } : MethodName)) ∈ BIG := big_in3 2 _ rfl rfl
theorem bw_483 : (Cond.code ({ cls := "SweetWraps$Machine", name := "standingLanes", desc := "()I" } : MethodName) prog_4_method_21_code (3 : Nat) (Option.some ClassFile.FieldType.int)) ∈ BIG := big_in3 3 _ rfl rfl
theorem bw_484 : (Cond.methodLink "SweetWrapsLaw" (77 : Nat) ({ cls := "SweetWraps", name := "stands", desc := "(II)I" } : MethodName)) ∈ BIG := big_in3 4 _ rfl rfl
theorem bw_485 : (Cond.instanceMethod ({ cls := "SweetWraps", name := "stands", desc := "(II)I" } : MethodName)) ∈ BIG := big_in3 5 _ rfl rfl
theorem bw_486 : (Cond.selects "SweetWraps" ({ cls := "SweetWraps", name := "stands", desc := "(II)I" } : MethodName) ({ cls := "SweetWraps", name := "stands", desc := "(II)I" } : MethodName)) ∈ BIG := big_in3 6 _ rfl rfl
theorem bw_487 : (Cond.code ({ cls := "SweetWraps", name := "stands", desc := "(II)I" } : MethodName) prog_1_method_17_code (5 : Nat) (Option.some ClassFile.FieldType.int)) ∈ BIG := big_in3 7 _ rfl rfl
theorem bw_488 : (Cond.methodLink "SweetWraps" (104 : Nat) ({ cls := "SweetWraps", name := "isIndex", desc := "(II)Z" } : MethodName)) ∈ BIG := big_in3 8 _ rfl rfl
theorem bw_489 : (Cond.methodLink "SweetWraps" (108 : Nat) ({ cls := "SweetWraps$Machine", name := "copyFrom", desc := "(LSweetWraps$Machine;)V" } : MethodName)) ∈ BIG := big_in3 9 _ rfl rfl
theorem bw_490 : (Cond.methodLink "SweetWraps" (111 : Nat) ({ cls := "SweetWraps$Machine", name := "work", desc := "(I)I" } : MethodName)) ∈ BIG := big_in3 10 _ rfl rfl
theorem bw_491 : (Cond.methodLink "SweetWrapsLaw" (81 : Nat) ({ cls := "SweetWraps", name := "bestSpeed", desc := "(II)I" } : MethodName)) ∈ BIG := big_in3 11 _ rfl rfl
theorem bw_492 : (Cond.instanceMethod ({ cls := "SweetWraps", name := "bestSpeed", desc := "(II)I" } : MethodName)) ∈ BIG := big_in3 12 _ rfl rfl
theorem bw_493 : (Cond.selects "SweetWraps" ({ cls := "SweetWraps", name := "bestSpeed", desc := "(II)I" } : MethodName) ({ cls := "SweetWraps", name := "bestSpeed", desc := "(II)I" } : MethodName)) ∈ BIG := big_in3 13 _ rfl rfl
theorem bw_494 : (Cond.code ({ cls := "SweetWraps", name := "bestSpeed", desc := "(II)I" } : MethodName) prog_1_method_18_code (7 : Nat) (Option.some ClassFile.FieldType.int)) ∈ BIG := big_in3 14 _ rfl rfl
theorem bw_495 : (Cond.methodLink "SweetWraps" (123 : Nat) ({ cls := "SweetWraps", name := "isBetween", desc := "(III)Z" } : MethodName)) ∈ BIG := big_in3 15 _ rfl rfl
theorem bw_496 : (Cond.fieldLink "SweetWraps" (127 : Nat) "SweetWraps" "LEAST_OF_SETTING" "[I") ∈ BIG := big_in3 16 _ rfl rfl
theorem bw_497 : (Cond.fieldLink "SweetWraps" (131 : Nat) "SweetWraps" "MOST_OF_SETTING" "[I") ∈ BIG := big_in3 17 _ rfl rfl
theorem bw_498 : (Cond.methodLink "SweetWrapsLaw" (85 : Nat) ({ cls := "SweetWraps", name := "ifApart", desc := "(III)I" } : MethodName)) ∈ BIG := big_in3 18 _ rfl rfl
theorem bw_499 : (Cond.instanceMethod ({ cls := "SweetWraps", name := "ifApart", desc := "(III)I" } : MethodName)) ∈ BIG := big_in3 19 _ rfl rfl
theorem bw_500 : (Cond.selects "SweetWraps" ({ cls := "SweetWraps", name := "ifApart", desc := "(III)I" } : MethodName) ({ cls := "SweetWraps", name := "ifApart", desc := "(III)I" } : MethodName)) ∈ BIG := big_in3 20 _ rfl rfl
theorem bw_501 : (Cond.code ({ cls := "SweetWraps", name := "ifApart", desc := "(III)I" } : MethodName) prog_1_method_19_code (4 : Nat) (Option.some ClassFile.FieldType.int)) ∈ BIG := big_in3 21 _ rfl rfl
theorem bw_502 : (Cond.methodLink "SweetWraps" (137 : Nat) ({ cls := "SweetWraps$Machine", name := "switchApart", desc := "(II)V" } : MethodName)) ∈ BIG := big_in3 22 _ rfl rfl
theorem bw_503 : (Cond.methodLink "SweetWrapsLaw" (89 : Nat) ({ cls := "SweetWraps", name := "tinsFor", desc := "()I" } : MethodName)) ∈ BIG := big_in3 23 _ rfl rfl
theorem bw_504 : (Cond.instanceMethod ({ cls := "SweetWraps", name := "tinsFor", desc := "()I" } : MethodName)) ∈ BIG := big_in3 24 _ rfl rfl
theorem bw_505 : (Cond.selects "SweetWraps" ({ cls := "SweetWraps", name := "tinsFor", desc := "()I" } : MethodName) ({ cls := "SweetWraps", name := "tinsFor", desc := "()I" } : MethodName)) ∈ BIG := big_in3 25 _ rfl rfl
theorem bw_506 : (Cond.code ({ cls := "SweetWraps", name := "tinsFor", desc := "()I" } : MethodName) prog_1_method_20_code (1 : Nat) (Option.some ClassFile.FieldType.int)) ∈ BIG := big_in3 26 _ rfl rfl
theorem bw_507 : (Cond.methodLink "SweetWraps" (141 : Nat) ({ cls := "SweetWraps$Machine", name := "tinsForHoppers", desc := "()I" } : MethodName)) ∈ BIG := big_in3 27 _ rfl rfl
theorem bw_508 : (Cond.instanceMethod ({ cls := "SweetWraps$Machine", name := "tinsForHoppers", desc := "()I" } : MethodName)) ∈ BIG := big_in3 28 _ rfl rfl
theorem bw_509 : (Cond.selects "SweetWraps$Machine" ({ cls := "SweetWraps$Machine", name := "tinsForHoppers", desc := "()I" } : MethodName) ({ cls := "SweetWraps$Machine", name := "tinsForHoppers", desc := "()I" } : MethodName)) ∈ BIG := big_in3 29 _ rfl rfl
theorem bw_510 : (Cond.code ({ cls := "SweetWraps$Machine", name := "tinsForHoppers", desc := "()I" } : MethodName) prog_4_method_38_code (4 : Nat) (Option.some ClassFile.FieldType.int)) ∈ BIG := big_in3 30 _ rfl rfl
theorem bw_511 : (Cond.methodLink "SweetWrapsLaw" (95 : Nat) ({ cls := "SweetWraps", name := "put", desc := "(J)I" } : MethodName)) ∈ BIG := big_in3 31 _ rfl rfl
theorem bw_512 : (Cond.instanceMethod ({ cls := "SweetWraps", name := "put", desc := "(J)I" } : MethodName)) ∈ BIG := big_in3 32 _ rfl rfl
theorem bw_513 : (Cond.selects "SweetWraps" ({ cls := "SweetWraps", name := "put", desc := "(J)I" } : MethodName) ({ cls := "SweetWraps", name := "put", desc := "(J)I" } : MethodName)) ∈ BIG := big_in3 33 _ rfl rfl
theorem bw_514 : (Cond.code ({ cls := "SweetWraps", name := "put", desc := "(J)I" } : MethodName) prog_1_method_21_code (3 : Nat) (Option.some ClassFile.FieldType.int)) ∈ BIG := big_in3 34 _ rfl rfl
theorem bw_515 : (Cond.methodLink "SweetWraps" (144 : Nat) ({ cls := "SweetWraps$Pad", name := "append", desc := "(J)I" } : MethodName)) ∈ BIG := big_in3 35 _ rfl rfl
theorem bw_516 : (Cond.instanceMethod ({ cls := "SweetWraps$Pad", name := "append", desc := "(J)I" } : MethodName)) ∈ BIG := big_in3 36 _ rfl rfl
theorem bw_517 : (Cond.selects "SweetWraps$Pad" ({ cls := "SweetWraps$Pad", name := "append", desc := "(J)I" } : MethodName) ({ cls := "SweetWraps$Pad", name := "append", desc := "(J)I" } : MethodName)) ∈ BIG := big_in3 37 _ rfl rfl
theorem bw_518 : (Cond.code ({ cls := "SweetWraps$Pad", name := "append", desc := "(J)I" } : MethodName) prog_5_method_2_code (7 : Nat) (Option.some ClassFile.FieldType.int)) ∈ BIG := big_in3 38 _ rfl rfl
theorem bw_519 : (Cond.methodLink "SweetWraps$Pad" (19 : Nat) ({ cls := "SweetWraps$Pad", name := "charactersIn", desc := "(J)I" } : MethodName)) ∈ BIG := big_in3 39 _ rfl rfl
theorem bw_520 : (Cond.static ({ cls := "SweetWraps$Pad", name := "charactersIn", desc := "(J)I" } : MethodName)) ∈ BIG := big_in3 40 _ rfl rfl
theorem bw_521 : (Cond.code ({ cls := "SweetWraps$Pad", name := "charactersIn", desc := "(J)I" } : MethodName) prog_5_method_3_code (5 : Nat) (Option.some ClassFile.FieldType.int)) ∈ BIG := big_in3 41 _ rfl rfl
theorem bw_522 : (Cond.constantLong "SweetWraps$Pad" (31 : Nat) (255 : Int64)) ∈ BIG := big_in3 42 _ rfl rfl
theorem bw_525 : (Cond.methodLink "SweetWrapsLaw" (100 : Nat) ({ cls := "SweetWraps", name := "wipe", desc := "()I" } : MethodName)) ∈ BIG := big_in3 45 _ rfl rfl
theorem bw_526 : (Cond.instanceMethod ({ cls := "SweetWraps", name := "wipe", desc := "()I" } : MethodName)) ∈ BIG := big_in3 46 _ rfl rfl
theorem bw_527 : (Cond.selects "SweetWraps" ({ cls := "SweetWraps", name := "wipe", desc := "()I" } : MethodName) ({ cls := "SweetWraps", name := "wipe", desc := "()I" } : MethodName)) ∈ BIG := big_in3 47 _ rfl rfl
theorem bw_528 : (Cond.code ({ cls := "SweetWraps", name := "wipe", desc := "()I" } : MethodName) prog_1_method_22_code (1 : Nat) (Option.some ClassFile.FieldType.int)) ∈ BIG := big_in3 48 _ rfl rfl
theorem bw_529 : (Cond.methodLink "SweetWraps" (148 : Nat) ({ cls := "SweetWraps$Pad", name := "clear", desc := "()I" } : MethodName)) ∈ BIG := big_in3 49 _ rfl rfl
theorem bw_530 : (Cond.instanceMethod ({ cls := "SweetWraps$Pad", name := "clear", desc := "()I" } : MethodName)) ∈ BIG := big_in3 50 _ rfl rfl
theorem bw_531 : (Cond.selects "SweetWraps$Pad" ({ cls := "SweetWraps$Pad", name := "clear", desc := "()I" } : MethodName) ({ cls := "SweetWraps$Pad", name := "clear", desc := "()I" } : MethodName)) ∈ BIG := big_in3 51 _ rfl rfl
theorem bw_532 : (Cond.code ({ cls := "SweetWraps$Pad", name := "clear", desc := "()I" } : MethodName) prog_5_method_4_code (2 : Nat) (Option.some ClassFile.FieldType.int)) ∈ BIG := big_in3 52 _ rfl rfl
theorem bw_533 : (Cond.methodLink "SweetWrapsLaw" (104 : Nat) ({ cls := "SweetWraps", name := "fault", desc := "()I" } : MethodName)) ∈ BIG := big_in3 53 _ rfl rfl
theorem bw_534 : (Cond.instanceMethod ({ cls := "SweetWraps", name := "fault", desc := "()I" } : MethodName)) ∈ BIG := big_in3 54 _ rfl rfl
theorem bw_535 : (Cond.selects "SweetWraps" ({ cls := "SweetWraps", name := "fault", desc := "()I" } : MethodName) ({ cls := "SweetWraps", name := "fault", desc := "()I" } : MethodName)) ∈ BIG := big_in3 55 _ rfl rfl
theorem bw_536 : (Cond.code ({ cls := "SweetWraps", name := "fault", desc := "()I" } : MethodName) prog_1_method_23_code (1 : Nat) (Option.some ClassFile.FieldType.int)) ∈ BIG := big_in3 56 _ rfl rfl
theorem bw_537 : (Cond.methodLink "SweetWraps" (151 : Nat) ({ cls := "SweetWraps$Pad", name := "findFault", desc := "()I" } : MethodName)) ∈ BIG := big_in3 57 _ rfl rfl
theorem bw_538 : (Cond.instanceMethod ({ cls := "SweetWraps$Pad", name := "findFault", desc := "()I" } : MethodName)) ∈ BIG := big_in3 58 _ rfl rfl
theorem bw_539 : (Cond.selects "SweetWraps$Pad" ({ cls := "SweetWraps$Pad", name := "findFault", desc := "()I" } : MethodName) ({ cls := "SweetWraps$Pad", name := "findFault", desc := "()I" } : MethodName)) ∈ BIG := big_in3 59 _ rfl rfl
theorem bw_540 : (Cond.code ({ cls := "SweetWraps$Pad", name := "findFault", desc := "()I" } : MethodName) prog_5_method_5_code (2 : Nat) (Option.some ClassFile.FieldType.int)) ∈ BIG := big_in3 60 _ rfl rfl
theorem bw_541 : (Cond.methodLink "SweetWraps$Pad" (37 : Nat) ({ cls := "SweetWraps$Pad", name := "startReading", desc := "()V" } : MethodName)) ∈ BIG := big_in3 61 _ rfl rfl
theorem bw_542 : (Cond.instanceMethod ({ cls := "SweetWraps$Pad", name := "startReading", desc := "()V" } : MethodName)) ∈ BIG := big_in3 62 _ rfl rfl
theorem bw_543 : (Cond.selects "SweetWraps$Pad" ({ cls := "SweetWraps$Pad", name := "startReading", desc := "()V" } : MethodName) ({ cls := "SweetWraps$Pad", name := "startReading", desc := "()V" } : MethodName)) ∈ BIG := big_in3 63 _ rfl rfl
theorem bw_544 : (Cond.code ({ cls := "SweetWraps$Pad", name := "startReading", desc := "()V" } : MethodName) prog_5_method_6_code (1 : Nat) (Option.none : Option ClassFile.FieldType)) ∈ BIG := big_in3 64 _ rfl rfl
theorem bw_545 : (Cond.methodLink "SweetWraps$Pad" (40 : Nat) ({ cls := "SweetWraps$Pad", name := "readOrder", desc := "()Z" } : MethodName)) ∈ BIG := big_in3 65 _ rfl rfl
theorem bw_546 : (Cond.instanceMethod ({ cls := "SweetWraps$Pad", name := "readOrder", desc := "()Z" } : MethodName)) ∈ BIG := big_in3 66 _ rfl rfl
theorem bw_547 : (Cond.selects "SweetWraps$Pad" ({ cls := "SweetWraps$Pad", name := "readOrder", desc := "()Z" } : MethodName) ({ cls := "SweetWraps$Pad", name := "readOrder", desc := "()Z" } : MethodName)) ∈ BIG := big_in3 67 _ rfl rfl
theorem bw_548 : (Cond.code ({ cls := "SweetWraps$Pad", name := "readOrder", desc := "()Z" } : MethodName) prog_5_method_7_code (3 : Nat) (Option.some ClassFile.FieldType.boolean)) ∈ BIG := big_in3 68 _ rfl rfl
theorem bw_549 : (Cond.methodLink "SweetWraps$Pad" (51 : Nat) ({ cls := "SweetWraps$Pad", name := "signHere", desc := "()I" } : MethodName)) ∈ BIG := big_in3 69 _ rfl rfl
theorem bw_551 : (Cond.instanceMethod ({ cls := "SweetWraps$Pad", name := "signHere", desc := "()I" } : MethodName)) ∈ BIG := big_in3 71 _ rfl rfl
theorem bw_552 : (Cond.code ({ cls := "SweetWraps$Pad", name := "signHere", desc := "()I" } : MethodName) prog_5_method_15_code (1 : Nat) (Option.some ClassFile.FieldType.int)) ∈ BIG := big_in3 72 _ rfl rfl
theorem bw_553 : (Cond.methodLink "SweetWraps$Pad" (61 : Nat) ({ cls := "SweetWraps$Pad", name := "shapeOf", desc := "(I)Ljava/lang/String;" } : MethodName)) ∈ BIG := big_in3 73 _ rfl rfl
theorem bw_554 : (Cond.static ({ cls := "SweetWraps$Pad", name := "shapeOf", desc := "(I)Ljava/lang/String;" } : MethodName)) ∈ BIG := big_in3 74 _ rfl rfl
theorem bw_555 : (Cond.code ({ cls := "SweetWraps$Pad", name := "shapeOf", desc := "(I)Ljava/lang/String;" } : MethodName) prog_5_method_8_code (1 : Nat) (Option.some (ClassFile.FieldType.object "java/lang/String"))) ∈ BIG := big_in3 75 _ rfl rfl
theorem bw_563 : (Cond.methodLink "SweetWraps$Pad" (65 : Nat) ({ cls := "java/lang/String", name := "length", desc := "()I" } : MethodName)) ∈ BIG := big_in3 83 _ rfl rfl
theorem bw_564 : (Cond.instanceMethod ({ cls := "java/lang/String", name := "length", desc := "()I" } : MethodName)) ∈ BIG := big_in3 84 _ rfl rfl
theorem bw_565 : (Cond.selects "java/lang/String" ({ cls := "java/lang/String", name := "length", desc := "()I" } : MethodName) ({ cls := "java/lang/String", name := "length", desc := "()I" } : MethodName)) ∈ BIG := big_in3 85 _ rfl rfl
theorem bw_566 : (Cond.code ({ cls := "java/lang/String", name := "length", desc := "()I" } : MethodName) prog_10_method_54_code (1 : Nat) (Option.some ClassFile.FieldType.int)) ∈ BIG := big_in3 86 _ rfl rfl
theorem bw_567 : (Cond.methodLink "java/lang/String" (335 : Nat) ({ cls := "java/lang/String", name := "coder", desc := "()B" } : MethodName)) ∈ BIG := big_in3 87 _ rfl rfl
theorem bw_568 : (Cond.instanceMethod ({ cls := "java/lang/String", name := "coder", desc := "()B" } : MethodName)) ∈ BIG := big_in3 88 _ rfl rfl
theorem bw_569 : (Cond.selects "java/lang/String" ({ cls := "java/lang/String", name := "coder", desc := "()B" } : MethodName) ({ cls := "java/lang/String", name := "coder", desc := "()B" } : MethodName)) ∈ BIG := big_in3 89 _ rfl rfl
theorem bw_570 : (Cond.code ({ cls := "java/lang/String", name := "coder", desc := "()B" } : MethodName) prog_10_method_152_code (1 : Nat) (Option.some ClassFile.FieldType.byte)) ∈ BIG := big_in3 90 _ rfl rfl
theorem bw_571 : (Cond.fieldLink "java/lang/String" (38 : Nat) "java/lang/String" "COMPACT_STRINGS" "Z") ∈ BIG := big_in3 91 _ rfl rfl
theorem bw_573 : (Cond.methodLink "SweetWraps$Pad" (69 : Nat) ({ cls := "java/lang/String", name := "charAt", desc := "(I)C" } : MethodName)) ∈ BIG := big_in3 93 _ rfl rfl
theorem bw_574 : (Cond.instanceMethod ({ cls := "java/lang/String", name := "charAt", desc := "(I)C" } : MethodName)) ∈ BIG := big_in3 94 _ rfl rfl
theorem bw_575 : (Cond.selects "java/lang/String" ({ cls := "java/lang/String", name := "charAt", desc := "(I)C" } : MethodName) ({ cls := "java/lang/String", name := "charAt", desc := "(I)C" } : MethodName)) ∈ BIG := big_in3 95 _ rfl rfl
theorem bw_576 : (Cond.code ({ cls := "java/lang/String", name := "charAt", desc := "(I)C" } : MethodName) prog_10_method_56_code (2 : Nat) (Option.some ClassFile.FieldType.char)) ∈ BIG := big_in3 96 _ rfl rfl
theorem bw_577 : (Cond.methodLink "java/lang/String" (492 : Nat) ({ cls := "java/lang/String", name := "isLatin1", desc := "()Z" } : MethodName)) ∈ BIG := big_in3 97 _ rfl rfl
theorem bw_578 : (Cond.instanceMethod ({ cls := "java/lang/String", name := "isLatin1", desc := "()Z" } : MethodName)) ∈ BIG := big_in3 98 _ rfl rfl
theorem bw_579 : (Cond.selects "java/lang/String" ({ cls := "java/lang/String", name := "isLatin1", desc := "()Z" } : MethodName) ({ cls := "java/lang/String", name := "isLatin1", desc := "()Z" } : MethodName)) ∈ BIG := big_in3 99 _ rfl rfl
theorem bw_580 : (Cond.code ({ cls := "java/lang/String", name := "isLatin1", desc := "()Z" } : MethodName) prog_10_method_154_code (1 : Nat) (Option.some ClassFile.FieldType.boolean)) ∈ BIG := big_in3 100 _ rfl rfl
theorem bw_581 : (Cond.methodLink "java/lang/String" (495 : Nat) ({ cls := "java/lang/StringLatin1", name := "charAt", desc := "([BI)C" } : MethodName)) ∈ BIG := big_in3 101 _ rfl rfl
theorem bw_582 : (Cond.static ({ cls := "java/lang/StringLatin1", name := "charAt", desc := "([BI)C" } : MethodName)) ∈ BIG := big_in3 102 _ rfl rfl
theorem bw_583 : (Cond.code ({ cls := "java/lang/StringLatin1", name := "charAt", desc := "([BI)C" } : MethodName) prog_11_method_2_code (2 : Nat) (Option.some ClassFile.FieldType.char)) ∈ BIG := big_in3 103 _ rfl rfl
theorem bw_584 : (Cond.methodLink "java/lang/StringLatin1" (9 : Nat) ({ cls := "java/lang/String", name := "checkIndex", desc := "(II)V" } : MethodName)) ∈ BIG := big_in3 104 _ rfl rfl
theorem bw_585 : (Cond.static ({ cls := "java/lang/String", name := "checkIndex", desc := "(II)V" } : MethodName)) ∈ BIG := big_in3 105 _ rfl rfl
theorem bw_586 : (Cond.code ({ cls := "java/lang/String", name := "checkIndex", desc := "(II)V" } : MethodName) prog_10_method_155_code (2 : Nat) (Option.none : Option ClassFile.FieldType)) ∈ BIG := big_in3 106 _ rfl rfl
theorem bw_587 : (Cond.fieldLink "java/lang/String" (1053 : Nat) "jdk/internal/util/Preconditions" "SIOOBE_FORMATTER" "Ljava/util/function/BiFunction;") ∈ BIG := big_in3 107 _ rfl rfl
theorem bw_589 : (Cond.methodLink "java/lang/String" (1059 : Nat) ({ cls := "jdk/internal/util/Preconditions", name := "checkIndex", desc := "(IILjava/util/function/BiFunction;)I" } : MethodName)) ∈ BIG := big_in3 109 _ rfl rfl
theorem bw_590 : (Cond.static ({ cls := "jdk/internal/util/Preconditions", name := "checkIndex", desc := "(IILjava/util/function/BiFunction;)I" } : MethodName)) ∈ BIG := big_in3 110 _ rfl rfl
theorem bw_591 : (Cond.code ({ cls := "jdk/internal/util/Preconditions", name := "checkIndex", desc := "(IILjava/util/function/BiFunction;)I" } : MethodName) prog_14_method_11_code (3 : Nat) (Option.some ClassFile.FieldType.int)) ∈ BIG := big_in3 111 _ rfl rfl
theorem bw_592 : (Cond.methodLink "java/lang/String" (498 : Nat) ({ cls := "java/lang/StringUTF16", name := "charAt", desc := "([BI)C" } : MethodName)) ∈ BIG := big_in3 112 _ rfl rfl
theorem bw_593 : (Cond.static ({ cls := "java/lang/StringUTF16", name := "charAt", desc := "([BI)C" } : MethodName)) ∈ BIG := big_in3 113 _ rfl rfl
theorem bw_594 : (Cond.code ({ cls := "java/lang/StringUTF16", name := "charAt", desc := "([BI)C" } : MethodName) prog_12_method_83_code (2 : Nat) (Option.some ClassFile.FieldType.char)) ∈ BIG := big_in3 114 _ rfl rfl
theorem bw_595 : (Cond.methodLink "java/lang/StringUTF16" (67 : Nat) ({ cls := "java/lang/StringUTF16", name := "checkIndex", desc := "(I[B)V" } : MethodName)) ∈ BIG := big_in3 115 _ rfl rfl
theorem bw_596 : (Cond.static ({ cls := "java/lang/StringUTF16", name := "checkIndex", desc := "(I[B)V" } : MethodName)) ∈ BIG := big_in3 116 _ rfl rfl
theorem bw_597 : (Cond.code ({ cls := "java/lang/StringUTF16", name := "checkIndex", desc := "(I[B)V" } : MethodName) prog_12_method_91_code (2 : Nat) (Option.none : Option ClassFile.FieldType)) ∈ BIG := big_in3 117 _ rfl rfl
theorem bw_598 : (Cond.methodLink "java/lang/StringUTF16" (48 : Nat) ({ cls := "java/lang/StringUTF16", name := "length", desc := "([B)I" } : MethodName)) ∈ BIG := big_in3 118 _ rfl rfl
theorem bw_599 : (Cond.static ({ cls := "java/lang/StringUTF16", name := "length", desc := "([B)I" } : MethodName)) ∈ BIG := big_in3 119 _ rfl rfl
theorem bw_600 : (Cond.code ({ cls := "java/lang/StringUTF16", name := "length", desc := "([B)I" } : MethodName) prog_12_method_6_code (1 : Nat) (Option.some ClassFile.FieldType.int)) ∈ BIG := big_in3 120 _ rfl rfl
theorem bw_601 : (Cond.methodLink "java/lang/StringUTF16" (414 : Nat) ({ cls := "java/lang/String", name := "checkIndex", desc := "(II)V" } : MethodName)) ∈ BIG := big_in3 121 _ rfl rfl
theorem bw_602 : (Cond.methodLink "java/lang/StringUTF16" (71 : Nat) ({ cls := "java/lang/StringUTF16", name := "getChar", desc := "([BI)C" } : MethodName)) ∈ BIG := big_in3 122 _ rfl rfl
theorem bw_603 : (Cond.static ({ cls := "java/lang/StringUTF16", name := "getChar", desc := "([BI)C" } : MethodName)) ∈ BIG := big_in3 123 _ rfl rfl
theorem bw_604 : (Cond.code ({ cls := "java/lang/StringUTF16", name := "getChar", desc := "([BI)C" } : MethodName) prog_12_method_5_code (2 : Nat) (Option.some ClassFile.FieldType.char)) ∈ BIG := big_in3 124 _ rfl rfl
theorem bw_605 : (Cond.fieldLink "java/lang/StringUTF16" (44 : Nat) "java/lang/StringUTF16" "$assertionsDisabled" "Z") ∈ BIG := big_in3 125 _ rfl rfl
theorem bw_607 : (Cond.fieldLink "java/lang/StringUTF16" (59 : Nat) "java/lang/StringUTF16" "HI_BYTE_SHIFT" "I") ∈ BIG := big_in3 127 _ rfl rfl
theorem bw_609 : (Cond.fieldLink "java/lang/StringUTF16" (63 : Nat) "java/lang/StringUTF16" "LO_BYTE_SHIFT" "I") ∈ BIG := big_in3 129 _ rfl rfl
theorem bw_611 : (Cond.methodLink "SweetWraps$Pad" (73 : Nat) ({ cls := "SweetWraps$Pad", name := "readPart", desc := "(I)Z" } : MethodName)) ∈ BIG := big_in3 131 _ rfl rfl
theorem bw_613 : (Cond.instanceMethod ({ cls := "SweetWraps$Pad", name := "readPart", desc := "(I)Z" } : MethodName)) ∈ BIG := big_in3 133 _ rfl rfl
theorem bw_614 : (Cond.code ({ cls := "SweetWraps$Pad", name := "readPart", desc := "(I)Z" } : MethodName) prog_5_method_9_code (2 : Nat) (Option.some ClassFile.FieldType.boolean)) ∈ BIG := big_in3 134 _ rfl rfl
theorem bw_615 : (Cond.methodLink "SweetWraps$Pad" (93 : Nat) ({ cls := "SweetWraps$Pad", name := "readDigit", desc := "()Z" } : MethodName)) ∈ BIG := big_in3 135 _ rfl rfl
theorem bw_617 : (Cond.instanceMethod ({ cls := "SweetWraps$Pad", name := "readDigit", desc := "()Z" } : MethodName)) ∈ BIG := big_in3 137 _ rfl rfl
theorem bw_618 : (Cond.code ({ cls := "SweetWraps$Pad", name := "readDigit", desc := "()Z" } : MethodName) prog_5_method_11_code (1 : Nat) (Option.some ClassFile.FieldType.boolean)) ∈ BIG := big_in3 138 _ rfl rfl
theorem bw_619 : (Cond.methodLink "SweetWraps$Pad" (99 : Nat) ({ cls := "SweetWraps$Pad", name := "isDigitHere", desc := "()Z" } : MethodName)) ∈ BIG := big_in3 139 _ rfl rfl
theorem bw_621 : (Cond.instanceMethod ({ cls := "SweetWraps$Pad", name := "isDigitHere", desc := "()Z" } : MethodName)) ∈ BIG := big_in3 141 _ rfl rfl
theorem bw_622 : (Cond.code ({ cls := "SweetWraps$Pad", name := "isDigitHere", desc := "()Z" } : MethodName) prog_5_method_14_code (1 : Nat) (Option.some ClassFile.FieldType.boolean)) ∈ BIG := big_in3 142 _ rfl rfl
theorem bw_623 : (Cond.methodLink "SweetWraps$Pad" (102 : Nat) ({ cls := "SweetWraps$Pad", name := "keepValue", desc := "(I)V" } : MethodName)) ∈ BIG := big_in3 143 _ rfl rfl
theorem bw_625 : (Cond.instanceMethod ({ cls := "SweetWraps$Pad", name := "keepValue", desc := "(I)V" } : MethodName)) ∈ BIG := big_in3 145 _ rfl rfl
theorem bw_626 : (Cond.code ({ cls := "SweetWraps$Pad", name := "keepValue", desc := "(I)V" } : MethodName) prog_5_method_13_code (2 : Nat) (Option.none : Option ClassFile.FieldType)) ∈ BIG := big_in3 146 _ rfl rfl
theorem bw_627 : (Cond.methodLink "SweetWraps$Pad" (96 : Nat) ({ cls := "SweetWraps$Pad", name := "readNumber", desc := "()Z" } : MethodName)) ∈ BIG := big_in3 147 _ rfl rfl
theorem bw_629 : (Cond.instanceMethod ({ cls := "SweetWraps$Pad", name := "readNumber", desc := "()Z" } : MethodName)) ∈ BIG := big_in3 149 _ rfl rfl
theorem bw_630 : (Cond.code ({ cls := "SweetWraps$Pad", name := "readNumber", desc := "()Z" } : MethodName) prog_5_method_12_code (3 : Nat) (Option.some ClassFile.FieldType.boolean)) ∈ BIG := big_in3 150 _ rfl rfl
theorem bw_631 : (Cond.methodLink "SweetWraps$Pad" (47 : Nat) ({ cls := "SweetWraps$Pad", name := "readSign", desc := "(I)Z" } : MethodName)) ∈ BIG := big_in3 151 _ rfl rfl
theorem bw_632 : (Cond.instanceMethod ({ cls := "SweetWraps$Pad", name := "readSign", desc := "(I)Z" } : MethodName)) ∈ BIG := big_in3 152 _ rfl rfl
theorem bw_633 : (Cond.selects "SweetWraps$Pad" ({ cls := "SweetWraps$Pad", name := "readSign", desc := "(I)Z" } : MethodName) ({ cls := "SweetWraps$Pad", name := "readSign", desc := "(I)Z" } : MethodName)) ∈ BIG := big_in3 153 _ rfl rfl
theorem bw_634 : (Cond.code ({ cls := "SweetWraps$Pad", name := "readSign", desc := "(I)Z" } : MethodName) prog_5_method_10_code (2 : Nat) (Option.some ClassFile.FieldType.boolean)) ∈ BIG := big_in3 154 _ rfl rfl
theorem bw_635 : (Cond.methodLink "SweetWraps$Pad" (76 : Nat) ({ cls := "java/lang/String", name := "isEmpty", desc := "()Z" } : MethodName)) ∈ BIG := big_in3 155 _ rfl rfl
theorem bw_636 : (Cond.instanceMethod ({ cls := "java/lang/String", name := "isEmpty", desc := "()Z" } : MethodName)) ∈ BIG := big_in3 156 _ rfl rfl
theorem bw_637 : (Cond.selects "java/lang/String" ({ cls := "java/lang/String", name := "isEmpty", desc := "()Z" } : MethodName) ({ cls := "java/lang/String", name := "isEmpty", desc := "()Z" } : MethodName)) ∈ BIG := big_in3 157 _ rfl rfl
theorem bw_638 : (Cond.code ({ cls := "java/lang/String", name := "isEmpty", desc := "()Z" } : MethodName) prog_10_method_55_code (1 : Nat) (Option.some ClassFile.FieldType.boolean)) ∈ BIG := big_in3 158 _ rfl rfl
theorem bw_639 : (Cond.arrayClass ClassFile.FieldType.byte) ∈ BIG := big_in3 159 _ rfl rfl
theorem bw_640 : (Cond.methodLink "SweetWrapsLaw" (108 : Nat) ({ cls := "SweetWraps", name := "carryOut", desc := "()I" } : MethodName)) ∈ BIG := big_in3 160 _ rfl rfl
theorem bw_641 : (Cond.instanceMethod ({ cls := "SweetWraps", name := "carryOut", desc := "()I" } : MethodName)) ∈ BIG := big_in3 161 _ rfl rfl
theorem bw_642 : (Cond.selects "SweetWraps" ({ cls := "SweetWraps", name := "carryOut", desc := "()I" } : MethodName) ({ cls := "SweetWraps", name := "carryOut", desc := "()I" } : MethodName)) ∈ BIG := big_in3 162 _ rfl rfl
theorem bw_643 : (Cond.code ({ cls := "SweetWraps", name := "carryOut", desc := "()I" } : MethodName) prog_1_method_24_code (3 : Nat) (Option.some ClassFile.FieldType.int)) ∈ BIG := big_in3 163 _ rfl rfl
theorem bw_644 : (Cond.methodLink "SweetWraps" (154 : Nat) ({ cls := "SweetWraps$Pad", name := "startReading", desc := "()V" } : MethodName)) ∈ BIG := big_in3 164 _ rfl rfl
theorem bw_645 : (Cond.methodLink "SweetWraps" (157 : Nat) ({ cls := "SweetWraps$Pad", name := "readOrder", desc := "()Z" } : MethodName)) ∈ BIG := big_in3 165 _ rfl rfl
theorem bw_646 : (Cond.methodLink "SweetWraps" (161 : Nat) ({ cls := "SweetWraps", name := "carryOrder", desc := "()I" } : MethodName)) ∈ BIG := big_in3 166 _ rfl rfl
theorem bw_648 : (Cond.instanceMethod ({ cls := "SweetWraps", name := "carryOrder", desc := "()I" } : MethodName)) ∈ BIG := big_in3 168 _ rfl rfl
theorem bw_649 : (Cond.code ({ cls := "SweetWraps", name := "carryOrder", desc := "()I" } : MethodName) prog_1_method_25_code (1 : Nat) (Option.some ClassFile.FieldType.int)) ∈ BIG := big_in3 169 _ rfl rfl
theorem bw_650 : (Cond.methodLink "SweetWraps" (164 : Nat) ({ cls := "SweetWraps$Pad", name := "readSign", desc := "(I)Z" } : MethodName)) ∈ BIG := big_in3 170 _ rfl rfl
theorem bw_651 : (Cond.methodLink "SweetWrapsLaw" (112 : Nat) ({ cls := "SweetWraps", name := "undo", desc := "()I" } : MethodName)) ∈ BIG := big_in3 171 _ rfl rfl
theorem bw_652 : (Cond.instanceMethod ({ cls := "SweetWraps", name := "undo", desc := "()I" } : MethodName)) ∈ BIG := big_in3 172 _ rfl rfl
theorem bw_653 : (Cond.selects "SweetWraps" ({ cls := "SweetWraps", name := "undo", desc := "()I" } : MethodName) ({ cls := "SweetWraps", name := "undo", desc := "()I" } : MethodName)) ∈ BIG := big_in3 173 _ rfl rfl
theorem bw_654 : (Cond.code ({ cls := "SweetWraps", name := "undo", desc := "()I" } : MethodName) prog_1_method_26_code (1 : Nat) (Option.some ClassFile.FieldType.int)) ∈ BIG := big_in3 174 _ rfl rfl
theorem bw_655 : (Cond.methodLink "SweetWraps" (174 : Nat) ({ cls := "SweetWraps$History", name := "stepBack", desc := "(LSweetWraps$Machine;)I" } : MethodName)) ∈ BIG := big_in3 175 _ rfl rfl
theorem bw_656 : (Cond.instanceMethod ({ cls := "SweetWraps$History", name := "stepBack", desc := "(LSweetWraps$Machine;)I" } : MethodName)) ∈ BIG := big_in3 176 _ rfl rfl
theorem bw_657 : (Cond.selects "SweetWraps$History" ({ cls := "SweetWraps$History", name := "stepBack", desc := "(LSweetWraps$Machine;)I" } : MethodName) ({ cls := "SweetWraps$History", name := "stepBack", desc := "(LSweetWraps$Machine;)I" } : MethodName)) ∈ BIG := big_in3 177 _ rfl rfl
theorem bw_658 : (Cond.code ({ cls := "SweetWraps$History", name := "stepBack", desc := "(LSweetWraps$Machine;)I" } : MethodName) prog_2_method_5_code (2 : Nat) (Option.some ClassFile.FieldType.int)) ∈ BIG := big_in3 178 _ rfl rfl
theorem bw_659 : (Cond.methodLink "SweetWrapsLaw" (116 : Nat) ({ cls := "SweetWraps", name := "save", desc := "(I)I" } : MethodName)) ∈ BIG := big_in3 179 _ rfl rfl
theorem bw_660 : (Cond.instanceMethod ({ cls := "SweetWraps", name := "save", desc := "(I)I" } : MethodName)) ∈ BIG := big_in3 180 _ rfl rfl
theorem bw_661 : (Cond.selects "SweetWraps" ({ cls := "SweetWraps", name := "save", desc := "(I)I" } : MethodName) ({ cls := "SweetWraps", name := "save", desc := "(I)I" } : MethodName)) ∈ BIG := big_in3 181 _ rfl rfl
theorem bw_662 : (Cond.code ({ cls := "SweetWraps", name := "save", desc := "(I)I" } : MethodName) prog_1_method_27_code (2 : Nat) (Option.some ClassFile.FieldType.int)) ∈ BIG := big_in3 182 _ rfl rfl
theorem bw_663 : (Cond.methodLink "SweetWrapsLaw" (120 : Nat) ({ cls := "SweetWraps", name := "restore", desc := "(I)I" } : MethodName)) ∈ BIG := big_in3 183 _ rfl rfl
theorem bw_664 : (Cond.instanceMethod ({ cls := "SweetWraps", name := "restore", desc := "(I)I" } : MethodName)) ∈ BIG := big_in3 184 _ rfl rfl
theorem bw_665 : (Cond.selects "SweetWraps" ({ cls := "SweetWraps", name := "restore", desc := "(I)I" } : MethodName) ({ cls := "SweetWraps", name := "restore", desc := "(I)I" } : MethodName)) ∈ BIG := big_in3 185 _ rfl rfl
theorem bw_666 : (Cond.code ({ cls := "SweetWraps", name := "restore", desc := "(I)I" } : MethodName) prog_1_method_28_code (2 : Nat) (Option.some ClassFile.FieldType.int)) ∈ BIG := big_in3 186 _ rfl rfl
theorem bw_667 : (Cond.classLink "SweetWrapsLaw" (10 : Nat) "SweetWrapsModel") ∈ BIG := big_in3 187 _ rfl rfl
theorem bw_668 : (Cond.instantiable "SweetWrapsModel" (11 : Nat)) ∈ BIG := big_in3 188 _ rfl rfl
theorem bw_669 : (Cond.methodLink "SweetWrapsLaw" (12 : Nat) ({ cls := "SweetWrapsModel", name := "<init>", desc := "()V" } : MethodName)) ∈ BIG := big_in3 189 _ rfl rfl
theorem bw_670 : (Cond.instanceMethod ({ cls := "SweetWrapsModel", name := "<init>", desc := "()V" } : MethodName)) ∈ BIG := big_in3 190 _ rfl rfl
theorem bw_671 : (Cond.code ({ cls := "SweetWrapsModel", name := "<init>", desc := "()V" } : MethodName) prog_8_method_1_code (1 : Nat) (Option.none : Option ClassFile.FieldType)) ∈ BIG := big_in3 191 _ rfl rfl
theorem bw_672 : (Cond.methodLink "SweetWrapsModel" (1 : Nat) ({ cls := "java/lang/Object", name := "<init>", desc := "()V" } : MethodName)) ∈ BIG := big_in3 192 _ rfl rfl
theorem bw_673 : (Cond.fieldLink "SweetWrapsModel" (7 : Nat) "SweetWrapsModel" "s" "[I") ∈ BIG := big_in3 193 _ rfl rfl
theorem bw_674 : (Cond.fieldLink "SweetWrapsModel" (13 : Nat) "SweetWrapsModel" "aside" "[I") ∈ BIG := big_in3 194 _ rfl rfl
theorem bw_675 : (Cond.fieldLink "SweetWrapsModel" (16 : Nat) "SweetWrapsModel" "before" "[I") ∈ BIG := big_in3 195 _ rfl rfl
theorem bw_676 : (Cond.fieldLink "SweetWrapsModel" (32 : Nat) "SweetWrapsModel" "known" "I") ∈ BIG := big_in3 196 _ rfl rfl
theorem bw_677 : (Cond.fieldLink "SweetWrapsModel" (19 : Nat) "SweetWrapsModel" "kept" "[I") ∈ BIG := big_in3 197 _ rfl rfl
theorem bw_678 : (Cond.fieldLink "SweetWrapsModel" (22 : Nat) "SweetWrapsModel" "isKept" "[Z") ∈ BIG := big_in3 198 _ rfl rfl
theorem bw_679 : (Cond.fieldLink "SweetWrapsModel" (26 : Nat) "SweetWrapsModel" "pad" "[I") ∈ BIG := big_in3 199 _ rfl rfl
theorem bw_680 : (Cond.fieldLink "SweetWrapsModel" (156 : Nat) "SweetWrapsModel" "length" "I") ∈ BIG := big_in3 200 _ rfl rfl
theorem bw_681 : (Cond.fieldLink "SweetWrapsModel" (29 : Nat) "SweetWrapsModel" "stood" "[I") ∈ BIG := big_in3 201 _ rfl rfl
theorem bw_682 : (Cond.fieldLink "SweetWrapsModel" (168 : Nat) "SweetWrapsModel" "place" "I") ∈ BIG := big_in3 202 _ rfl rfl
theorem bw_683 : (Cond.fieldLink "SweetWrapsModel" (171 : Nat) "SweetWrapsModel" "isWrong" "Z") ∈ BIG := big_in3 203 _ rfl rfl
theorem bw_684 : (Cond.laysFinal "SweetWrapsModel" "SweetWrapsModel" "s" "[I") ∈ BIG := big_in3 204 _ rfl rfl
theorem bw_686 : (Cond.laysFinal "SweetWrapsModel" "SweetWrapsModel" "aside" "[I") ∈ BIG := big_in3 206 _ rfl rfl
theorem bw_688 : (Cond.laysFinal "SweetWrapsModel" "SweetWrapsModel" "before" "[I") ∈ BIG := big_in3 208 _ rfl rfl
theorem bw_690 : (Cond.lays "SweetWrapsModel" "SweetWrapsModel" "known" "I") ∈ BIG := big_in3 210 _ rfl rfl
theorem bw_692 : (Cond.laysFinal "SweetWrapsModel" "SweetWrapsModel" "kept" "[I") ∈ BIG := big_in3 212 _ rfl rfl
theorem bw_694 : (Cond.laysFinal "SweetWrapsModel" "SweetWrapsModel" "isKept" "[Z") ∈ BIG := big_in3 214 _ rfl rfl
theorem bw_696 : (Cond.laysFinal "SweetWrapsModel" "SweetWrapsModel" "pad" "[I") ∈ BIG := big_in3 216 _ rfl rfl
theorem bw_698 : (Cond.lays "SweetWrapsModel" "SweetWrapsModel" "length" "I") ∈ BIG := big_in3 218 _ rfl rfl
theorem bw_700 : (Cond.laysFinal "SweetWrapsModel" "SweetWrapsModel" "stood" "[I") ∈ BIG := big_in3 220 _ rfl rfl
theorem bw_702 : (Cond.lays "SweetWrapsModel" "SweetWrapsModel" "place" "I") ∈ BIG := big_in3 222 _ rfl rfl
theorem bw_704 : (Cond.lays "SweetWrapsModel" "SweetWrapsModel" "isWrong" "Z") ∈ BIG := big_in3 224 _ rfl rfl
theorem bw_707 : (Cond.methodLink "SweetWrapsLaw" (17 : Nat) ({ cls := "SweetWrapsModel", name := "set", desc := "(II)I" } : MethodName)) ∈ BIG := big_in3 227 _ rfl rfl
theorem bw_708 : (Cond.instanceMethod ({ cls := "SweetWrapsModel", name := "set", desc := "(II)I" } : MethodName)) ∈ BIG := big_in3 228 _ rfl rfl
theorem bw_709 : (Cond.selects "SweetWrapsModel" ({ cls := "SweetWrapsModel", name := "set", desc := "(II)I" } : MethodName) ({ cls := "SweetWrapsModel", name := "set", desc := "(II)I" } : MethodName)) ∈ BIG := big_in3 229 _ rfl rfl
theorem bw_710 : (Cond.code ({ cls := "SweetWrapsModel", name := "set", desc := "(II)I" } : MethodName) prog_8_method_33_code (6 : Nat) (Option.some ClassFile.FieldType.int)) ∈ BIG := big_in3 230 _ rfl rfl
theorem bw_711 : (Cond.methodLink "SweetWrapsModel" (36 : Nat) ({ cls := "SweetWrapsModel", name := "in", desc := "(III)Z" } : MethodName)) ∈ BIG := big_in3 231 _ rfl rfl
theorem bw_712 : (Cond.static ({ cls := "SweetWrapsModel", name := "in", desc := "(III)Z" } : MethodName)) ∈ BIG := big_in3 232 _ rfl rfl
theorem bw_713 : (Cond.code ({ cls := "SweetWrapsModel", name := "in", desc := "(III)Z" } : MethodName) prog_8_method_3_code (3 : Nat) (Option.some ClassFile.FieldType.boolean)) ∈ BIG := big_in3 233 _ rfl rfl
theorem bw_714 : (Cond.methodLink "SweetWrapsModel" (104 : Nat) ({ cls := "SweetWrapsModel", name := "record", desc := "()V" } : MethodName)) ∈ BIG := big_in3 234 _ rfl rfl
theorem bw_716 : (Cond.instanceMethod ({ cls := "SweetWrapsModel", name := "record", desc := "()V" } : MethodName)) ∈ BIG := big_in3 236 _ rfl rfl
theorem bw_717 : (Cond.code ({ cls := "SweetWrapsModel", name := "record", desc := "()V" } : MethodName) prog_8_method_6_code (2 : Nat) (Option.none : Option ClassFile.FieldType)) ∈ BIG := big_in3 237 _ rfl rfl
theorem bw_718 : (Cond.methodLink "SweetWrapsLaw" (22 : Nat) ({ cls := "SweetWrapsModel", name := "heap", desc := "(III)I" } : MethodName)) ∈ BIG := big_in3 238 _ rfl rfl
theorem bw_719 : (Cond.instanceMethod ({ cls := "SweetWrapsModel", name := "heap", desc := "(III)I" } : MethodName)) ∈ BIG := big_in3 239 _ rfl rfl
theorem bw_720 : (Cond.selects "SweetWrapsModel" ({ cls := "SweetWrapsModel", name := "heap", desc := "(III)I" } : MethodName) ({ cls := "SweetWrapsModel", name := "heap", desc := "(III)I" } : MethodName)) ∈ BIG := big_in4 0 _ rfl rfl
theorem bw_721 : (Cond.code ({ cls := "SweetWrapsModel", name := "heap", desc := "(III)I" } : MethodName) prog_8_method_34_code (4 : Nat) (Option.some ClassFile.FieldType.int)) ∈ BIG := big_in4 1 _ rfl rfl
theorem bw_722 : (Cond.methodLink "SweetWrapsModel" (107 : Nat) ({ cls := "SweetWrapsModel", name := "putAside", desc := "()V" } : MethodName)) ∈ BIG := big_in4 2 _ rfl rfl
theorem bw_724 : (Cond.instanceMethod ({ cls := "SweetWrapsModel", name := "putAside", desc := "()V" } : MethodName)) ∈ BIG := big_in4 4 _ rfl rfl
theorem bw_725 : (Cond.code ({ cls := "SweetWrapsModel", name := "putAside", desc := "()V" } : MethodName) prog_8_method_4_code (2 : Nat) (Option.none : Option ClassFile.FieldType)) ∈ BIG := big_in4 5 _ rfl rfl
theorem bw_726 : (Cond.methodLink "SweetWrapsModel" (110 : Nat) ({ cls := "SweetWrapsModel", name := "heaps", desc := "(III)I" } : MethodName)) ∈ BIG := big_in4 6 _ rfl rfl
theorem bw_728 : (Cond.instanceMethod ({ cls := "SweetWrapsModel", name := "heaps", desc := "(III)I" } : MethodName)) ∈ BIG := big_in4 8 _ rfl rfl
theorem bw_729 : (Cond.code ({ cls := "SweetWrapsModel", name := "heaps", desc := "(III)I" } : MethodName) prog_8_method_24_code (7 : Nat) (Option.some ClassFile.FieldType.int)) ∈ BIG := big_in4 9 _ rfl rfl
theorem bw_730 : (Cond.methodLink "SweetWrapsModel" (85 : Nat) ({ cls := "SweetWrapsModel", name := "isLane", desc := "(I)Z" } : MethodName)) ∈ BIG := big_in4 10 _ rfl rfl
theorem bw_731 : (Cond.static ({ cls := "SweetWrapsModel", name := "isLane", desc := "(I)Z" } : MethodName)) ∈ BIG := big_in4 11 _ rfl rfl
theorem bw_732 : (Cond.code ({ cls := "SweetWrapsModel", name := "isLane", desc := "(I)Z" } : MethodName) prog_8_method_7_code (1 : Nat) (Option.some ClassFile.FieldType.boolean)) ∈ BIG := big_in4 12 _ rfl rfl
theorem bw_733 : (Cond.methodLink "SweetWrapsModel" (88 : Nat) ({ cls := "SweetWrapsModel", name := "isFlavour", desc := "(I)Z" } : MethodName)) ∈ BIG := big_in4 13 _ rfl rfl
theorem bw_734 : (Cond.static ({ cls := "SweetWrapsModel", name := "isFlavour", desc := "(I)Z" } : MethodName)) ∈ BIG := big_in4 14 _ rfl rfl
theorem bw_735 : (Cond.code ({ cls := "SweetWrapsModel", name := "isFlavour", desc := "(I)Z" } : MethodName) prog_8_method_8_code (1 : Nat) (Option.some ClassFile.FieldType.boolean)) ∈ BIG := big_in4 15 _ rfl rfl
theorem bw_736 : (Cond.methodLink "SweetWrapsModel" (65 : Nat) ({ cls := "SweetWrapsModel", name := "heapFlavour", desc := "(II)I" } : MethodName)) ∈ BIG := big_in4 16 _ rfl rfl
theorem bw_738 : (Cond.instanceMethod ({ cls := "SweetWrapsModel", name := "heapFlavour", desc := "(II)I" } : MethodName)) ∈ BIG := big_in4 18 _ rfl rfl
theorem bw_739 : (Cond.code ({ cls := "SweetWrapsModel", name := "heapFlavour", desc := "(II)I" } : MethodName) prog_8_method_10_code (3 : Nat) (Option.some ClassFile.FieldType.int)) ∈ BIG := big_in4 19 _ rfl rfl
theorem bw_740 : (Cond.methodLink "SweetWrapsModel" (40 : Nat) ({ cls := "SweetWrapsModel", name := "lane", desc := "(II)I" } : MethodName)) ∈ BIG := big_in4 20 _ rfl rfl
theorem bw_742 : (Cond.instanceMethod ({ cls := "SweetWrapsModel", name := "lane", desc := "(II)I" } : MethodName)) ∈ BIG := big_in4 22 _ rfl rfl
theorem bw_743 : (Cond.code ({ cls := "SweetWrapsModel", name := "lane", desc := "(II)I" } : MethodName) prog_8_method_9_code (3 : Nat) (Option.some ClassFile.FieldType.int)) ∈ BIG := big_in4 23 _ rfl rfl
theorem bw_744 : (Cond.methodLink "SweetWrapsModel" (91 : Nat) ({ cls := "SweetWrapsModel", name := "inHopper", desc := "(I)I" } : MethodName)) ∈ BIG := big_in4 24 _ rfl rfl
theorem bw_746 : (Cond.instanceMethod ({ cls := "SweetWrapsModel", name := "inHopper", desc := "(I)I" } : MethodName)) ∈ BIG := big_in4 26 _ rfl rfl
theorem bw_747 : (Cond.code ({ cls := "SweetWrapsModel", name := "inHopper", desc := "(I)I" } : MethodName) prog_8_method_12_code (4 : Nat) (Option.some ClassFile.FieldType.int)) ∈ BIG := big_in4 27 _ rfl rfl
theorem bw_748 : (Cond.methodLink "SweetWrapsModel" (44 : Nat) ({ cls := "SweetWrapsModel", name := "heapMany", desc := "(II)I" } : MethodName)) ∈ BIG := big_in4 28 _ rfl rfl
theorem bw_750 : (Cond.instanceMethod ({ cls := "SweetWrapsModel", name := "heapMany", desc := "(II)I" } : MethodName)) ∈ BIG := big_in4 30 _ rfl rfl
theorem bw_751 : (Cond.code ({ cls := "SweetWrapsModel", name := "heapMany", desc := "(II)I" } : MethodName) prog_8_method_11_code (3 : Nat) (Option.some ClassFile.FieldType.int)) ∈ BIG := big_in4 31 _ rfl rfl
theorem bw_752 : (Cond.methodLink "SweetWrapsModel" (114 : Nat) ({ cls := "SweetWrapsModel", name := "end", desc := "(I)I" } : MethodName)) ∈ BIG := big_in4 32 _ rfl rfl
theorem bw_754 : (Cond.instanceMethod ({ cls := "SweetWrapsModel", name := "end", desc := "(I)I" } : MethodName)) ∈ BIG := big_in4 34 _ rfl rfl
theorem bw_755 : (Cond.code ({ cls := "SweetWrapsModel", name := "end", desc := "(I)I" } : MethodName) prog_8_method_32_code (4 : Nat) (Option.some ClassFile.FieldType.int)) ∈ BIG := big_in4 35 _ rfl rfl
theorem bw_756 : (Cond.methodLink "SweetWrapsLaw" (26 : Nat) ({ cls := "SweetWrapsModel", name := "foil", desc := "(II)I" } : MethodName)) ∈ BIG := big_in4 36 _ rfl rfl
theorem bw_757 : (Cond.instanceMethod ({ cls := "SweetWrapsModel", name := "foil", desc := "(II)I" } : MethodName)) ∈ BIG := big_in4 37 _ rfl rfl
theorem bw_758 : (Cond.selects "SweetWrapsModel" ({ cls := "SweetWrapsModel", name := "foil", desc := "(II)I" } : MethodName) ({ cls := "SweetWrapsModel", name := "foil", desc := "(II)I" } : MethodName)) ∈ BIG := big_in4 38 _ rfl rfl
theorem bw_759 : (Cond.code ({ cls := "SweetWrapsModel", name := "foil", desc := "(II)I" } : MethodName) prog_8_method_35_code (3 : Nat) (Option.some ClassFile.FieldType.int)) ∈ BIG := big_in4 39 _ rfl rfl
theorem bw_760 : (Cond.methodLink "SweetWrapsModel" (117 : Nat) ({ cls := "SweetWrapsModel", name := "foils", desc := "(II)I" } : MethodName)) ∈ BIG := big_in4 40 _ rfl rfl
theorem bw_762 : (Cond.instanceMethod ({ cls := "SweetWrapsModel", name := "foils", desc := "(II)I" } : MethodName)) ∈ BIG := big_in4 42 _ rfl rfl
theorem bw_763 : (Cond.code ({ cls := "SweetWrapsModel", name := "foils", desc := "(II)I" } : MethodName) prog_8_method_25_code (3 : Nat) (Option.some ClassFile.FieldType.int)) ∈ BIG := big_in4 43 _ rfl rfl
theorem bw_764 : (Cond.methodLink "SweetWrapsLaw" (31 : Nat) ({ cls := "SweetWrapsModel", name := "tin", desc := "()I" } : MethodName)) ∈ BIG := big_in4 44 _ rfl rfl
theorem bw_765 : (Cond.instanceMethod ({ cls := "SweetWrapsModel", name := "tin", desc := "()I" } : MethodName)) ∈ BIG := big_in4 45 _ rfl rfl
theorem bw_766 : (Cond.selects "SweetWrapsModel" ({ cls := "SweetWrapsModel", name := "tin", desc := "()I" } : MethodName) ({ cls := "SweetWrapsModel", name := "tin", desc := "()I" } : MethodName)) ∈ BIG := big_in4 46 _ rfl rfl
theorem bw_767 : (Cond.code ({ cls := "SweetWrapsModel", name := "tin", desc := "()I" } : MethodName) prog_8_method_36_code (1 : Nat) (Option.some ClassFile.FieldType.int)) ∈ BIG := big_in4 47 _ rfl rfl
theorem bw_768 : (Cond.methodLink "SweetWrapsModel" (120 : Nat) ({ cls := "SweetWrapsModel", name := "tins", desc := "()I" } : MethodName)) ∈ BIG := big_in4 48 _ rfl rfl
theorem bw_770 : (Cond.instanceMethod ({ cls := "SweetWrapsModel", name := "tins", desc := "()I" } : MethodName)) ∈ BIG := big_in4 50 _ rfl rfl
theorem bw_771 : (Cond.code ({ cls := "SweetWrapsModel", name := "tins", desc := "()I" } : MethodName) prog_8_method_26_code (1 : Nat) (Option.some ClassFile.FieldType.int)) ∈ BIG := big_in4 51 _ rfl rfl
theorem bw_772 : (Cond.methodLink "SweetWrapsLaw" (36 : Nat) ({ cls := "SweetWrapsModel", name := "ship", desc := "(I)I" } : MethodName)) ∈ BIG := big_in4 52 _ rfl rfl
theorem bw_773 : (Cond.instanceMethod ({ cls := "SweetWrapsModel", name := "ship", desc := "(I)I" } : MethodName)) ∈ BIG := big_in4 53 _ rfl rfl
theorem bw_774 : (Cond.selects "SweetWrapsModel" ({ cls := "SweetWrapsModel", name := "ship", desc := "(I)I" } : MethodName) ({ cls := "SweetWrapsModel", name := "ship", desc := "(I)I" } : MethodName)) ∈ BIG := big_in4 54 _ rfl rfl
theorem bw_775 : (Cond.code ({ cls := "SweetWrapsModel", name := "ship", desc := "(I)I" } : MethodName) prog_8_method_37_code (2 : Nat) (Option.some ClassFile.FieldType.int)) ∈ BIG := big_in4 55 _ rfl rfl
theorem bw_776 : (Cond.methodLink "SweetWrapsModel" (123 : Nat) ({ cls := "SweetWrapsModel", name := "ships", desc := "(I)I" } : MethodName)) ∈ BIG := big_in4 56 _ rfl rfl
theorem bw_778 : (Cond.instanceMethod ({ cls := "SweetWrapsModel", name := "ships", desc := "(I)I" } : MethodName)) ∈ BIG := big_in4 58 _ rfl rfl
theorem bw_779 : (Cond.code ({ cls := "SweetWrapsModel", name := "ships", desc := "(I)I" } : MethodName) prog_8_method_27_code (2 : Nat) (Option.some ClassFile.FieldType.int)) ∈ BIG := big_in4 59 _ rfl rfl
theorem bw_780 : (Cond.methodLink "SweetWrapsModel" (50 : Nat) ({ cls := "SweetWrapsModel", name := "isShipped", desc := "(I)Z" } : MethodName)) ∈ BIG := big_in4 60 _ rfl rfl
theorem bw_782 : (Cond.instanceMethod ({ cls := "SweetWrapsModel", name := "isShipped", desc := "(I)Z" } : MethodName)) ∈ BIG := big_in4 62 _ rfl rfl
theorem bw_783 : (Cond.code ({ cls := "SweetWrapsModel", name := "isShipped", desc := "(I)Z" } : MethodName) prog_8_method_15_code (2 : Nat) (Option.some ClassFile.FieldType.boolean)) ∈ BIG := big_in4 63 _ rfl rfl
theorem bw_784 : (Cond.methodLink "SweetWrapsModel" (54 : Nat) ({ cls := "SweetWrapsModel", name := "sweets", desc := "(I)I" } : MethodName)) ∈ BIG := big_in4 64 _ rfl rfl
theorem bw_786 : (Cond.instanceMethod ({ cls := "SweetWrapsModel", name := "sweets", desc := "(I)I" } : MethodName)) ∈ BIG := big_in4 66 _ rfl rfl
theorem bw_787 : (Cond.code ({ cls := "SweetWrapsModel", name := "sweets", desc := "(I)I" } : MethodName) prog_8_method_16_code (4 : Nat) (Option.some ClassFile.FieldType.int)) ∈ BIG := big_in4 67 _ rfl rfl
theorem bw_788 : (Cond.methodLink "SweetWrapsModel" (47 : Nat) ({ cls := "SweetWrapsModel", name := "inside", desc := "(II)I" } : MethodName)) ∈ BIG := big_in4 68 _ rfl rfl
theorem bw_790 : (Cond.instanceMethod ({ cls := "SweetWrapsModel", name := "inside", desc := "(II)I" } : MethodName)) ∈ BIG := big_in4 70 _ rfl rfl
theorem bw_791 : (Cond.code ({ cls := "SweetWrapsModel", name := "inside", desc := "(II)I" } : MethodName) prog_8_method_14_code (3 : Nat) (Option.some ClassFile.FieldType.int)) ∈ BIG := big_in4 71 _ rfl rfl
theorem bw_792 : (Cond.methodLink "SweetWrapsLaw" (40 : Nat) ({ cls := "SweetWrapsModel", name := "apart", desc := "(II)I" } : MethodName)) ∈ BIG := big_in4 72 _ rfl rfl
theorem bw_793 : (Cond.instanceMethod ({ cls := "SweetWrapsModel", name := "apart", desc := "(II)I" } : MethodName)) ∈ BIG := big_in4 73 _ rfl rfl
theorem bw_794 : (Cond.selects "SweetWrapsModel" ({ cls := "SweetWrapsModel", name := "apart", desc := "(II)I" } : MethodName) ({ cls := "SweetWrapsModel", name := "apart", desc := "(II)I" } : MethodName)) ∈ BIG := big_in4 74 _ rfl rfl
theorem bw_795 : (Cond.code ({ cls := "SweetWrapsModel", name := "apart", desc := "(II)I" } : MethodName) prog_8_method_38_code (3 : Nat) (Option.some ClassFile.FieldType.int)) ∈ BIG := big_in4 75 _ rfl rfl
theorem bw_796 : (Cond.methodLink "SweetWrapsModel" (126 : Nat) ({ cls := "SweetWrapsModel", name := "keepsApart", desc := "(II)I" } : MethodName)) ∈ BIG := big_in4 76 _ rfl rfl
theorem bw_798 : (Cond.instanceMethod ({ cls := "SweetWrapsModel", name := "keepsApart", desc := "(II)I" } : MethodName)) ∈ BIG := big_in4 78 _ rfl rfl
theorem bw_799 : (Cond.code ({ cls := "SweetWrapsModel", name := "keepsApart", desc := "(II)I" } : MethodName) prog_8_method_30_code (4 : Nat) (Option.some ClassFile.FieldType.int)) ∈ BIG := big_in4 79 _ rfl rfl
theorem bw_800 : (Cond.methodLink "SweetWrapsModel" (94 : Nat) ({ cls := "SweetWrapsModel", name := "areApart", desc := "(II)Z" } : MethodName)) ∈ BIG := big_in4 80 _ rfl rfl
theorem bw_802 : (Cond.instanceMethod ({ cls := "SweetWrapsModel", name := "areApart", desc := "(II)Z" } : MethodName)) ∈ BIG := big_in4 82 _ rfl rfl
theorem bw_803 : (Cond.code ({ cls := "SweetWrapsModel", name := "areApart", desc := "(II)Z" } : MethodName) prog_8_method_28_code (3 : Nat) (Option.some ClassFile.FieldType.boolean)) ∈ BIG := big_in4 83 _ rfl rfl
theorem bw_804 : (Cond.methodLink "SweetWrapsModel" (97 : Nat) ({ cls := "SweetWrapsModel", name := "turn", desc := "(II)V" } : MethodName)) ∈ BIG := big_in4 84 _ rfl rfl
theorem bw_806 : (Cond.instanceMethod ({ cls := "SweetWrapsModel", name := "turn", desc := "(II)V" } : MethodName)) ∈ BIG := big_in4 86 _ rfl rfl
theorem bw_807 : (Cond.code ({ cls := "SweetWrapsModel", name := "turn", desc := "(II)V" } : MethodName) prog_8_method_29_code (3 : Nat) (Option.none : Option ClassFile.FieldType)) ∈ BIG := big_in4 87 _ rfl rfl
theorem bw_808 : (Cond.methodLink "SweetWrapsLaw" (44 : Nat) ({ cls := "SweetWrapsModel", name := "run", desc := "(I)I" } : MethodName)) ∈ BIG := big_in4 88 _ rfl rfl
theorem bw_809 : (Cond.instanceMethod ({ cls := "SweetWrapsModel", name := "run", desc := "(I)I" } : MethodName)) ∈ BIG := big_in4 89 _ rfl rfl
theorem bw_810 : (Cond.selects "SweetWrapsModel" ({ cls := "SweetWrapsModel", name := "run", desc := "(I)I" } : MethodName) ({ cls := "SweetWrapsModel", name := "run", desc := "(I)I" } : MethodName)) ∈ BIG := big_in4 90 _ rfl rfl
theorem bw_811 : (Cond.code ({ cls := "SweetWrapsModel", name := "run", desc := "(I)I" } : MethodName) prog_8_method_39_code (2 : Nat) (Option.some ClassFile.FieldType.int)) ∈ BIG := big_in4 91 _ rfl rfl
theorem bw_812 : (Cond.methodLink "SweetWrapsModel" (129 : Nat) ({ cls := "SweetWrapsModel", name := "goes", desc := "(I)I" } : MethodName)) ∈ BIG := big_in4 92 _ rfl rfl
theorem bw_814 : (Cond.instanceMethod ({ cls := "SweetWrapsModel", name := "goes", desc := "(I)I" } : MethodName)) ∈ BIG := big_in4 94 _ rfl rfl
theorem bw_815 : (Cond.code ({ cls := "SweetWrapsModel", name := "goes", desc := "(I)I" } : MethodName) prog_8_method_31_code (2 : Nat) (Option.some ClassFile.FieldType.int)) ∈ BIG := big_in4 95 _ rfl rfl
theorem bw_816 : (Cond.methodLink "SweetWrapsModel" (101 : Nat) ({ cls := "SweetWrapsModel", name := "runs", desc := "(I)I" } : MethodName)) ∈ BIG := big_in4 96 _ rfl rfl
theorem bw_818 : (Cond.instanceMethod ({ cls := "SweetWrapsModel", name := "runs", desc := "(I)I" } : MethodName)) ∈ BIG := big_in4 98 _ rfl rfl
theorem bw_819 : (Cond.code ({ cls := "SweetWrapsModel", name := "runs", desc := "(I)I" } : MethodName) prog_8_method_23_code (4 : Nat) (Option.some ClassFile.FieldType.int)) ∈ BIG := big_in4 99 _ rfl rfl
theorem bw_820 : (Cond.methodLink "SweetWrapsModel" (81 : Nat) ({ cls := "SweetWrapsModel", name := "tick", desc := "()I" } : MethodName)) ∈ BIG := big_in4 100 _ rfl rfl
theorem bw_822 : (Cond.instanceMethod ({ cls := "SweetWrapsModel", name := "tick", desc := "()I" } : MethodName)) ∈ BIG := big_in4 102 _ rfl rfl
theorem bw_823 : (Cond.code ({ cls := "SweetWrapsModel", name := "tick", desc := "()I" } : MethodName) prog_8_method_22_code (4 : Nat) (Option.some ClassFile.FieldType.int)) ∈ BIG := big_in4 103 _ rfl rfl
theorem bw_824 : (Cond.methodLink "SweetWrapsModel" (75 : Nat) ({ cls := "SweetWrapsModel", name := "reason", desc := "(I)I" } : MethodName)) ∈ BIG := big_in4 104 _ rfl rfl
theorem bw_826 : (Cond.instanceMethod ({ cls := "SweetWrapsModel", name := "reason", desc := "(I)I" } : MethodName)) ∈ BIG := big_in4 106 _ rfl rfl
theorem bw_827 : (Cond.code ({ cls := "SweetWrapsModel", name := "reason", desc := "(I)I" } : MethodName) prog_8_method_20_code (2 : Nat) (Option.some ClassFile.FieldType.int)) ∈ BIG := big_in4 107 _ rfl rfl
theorem bw_828 : (Cond.methodLink "SweetWrapsModel" (68 : Nat) ({ cls := "SweetWrapsModel", name := "tinFor", desc := "(I)I" } : MethodName)) ∈ BIG := big_in4 108 _ rfl rfl
theorem bw_830 : (Cond.instanceMethod ({ cls := "SweetWrapsModel", name := "tinFor", desc := "(I)I" } : MethodName)) ∈ BIG := big_in4 110 _ rfl rfl
theorem bw_831 : (Cond.code ({ cls := "SweetWrapsModel", name := "tinFor", desc := "(I)I" } : MethodName) prog_8_method_19_code (3 : Nat) (Option.some ClassFile.FieldType.int)) ∈ BIG := big_in4 111 _ rfl rfl
theorem bw_832 : (Cond.methodLink "SweetWrapsModel" (61 : Nat) ({ cls := "SweetWrapsModel", name := "takes", desc := "(II)Z" } : MethodName)) ∈ BIG := big_in4 112 _ rfl rfl
theorem bw_834 : (Cond.instanceMethod ({ cls := "SweetWrapsModel", name := "takes", desc := "(II)Z" } : MethodName)) ∈ BIG := big_in4 114 _ rfl rfl
theorem bw_835 : (Cond.code ({ cls := "SweetWrapsModel", name := "takes", desc := "(II)Z" } : MethodName) prog_8_method_18_code (3 : Nat) (Option.some ClassFile.FieldType.boolean)) ∈ BIG := big_in4 115 _ rfl rfl
theorem bw_836 : (Cond.methodLink "SweetWrapsModel" (58 : Nat) ({ cls := "SweetWrapsModel", name := "flavoursOf", desc := "(I)I" } : MethodName)) ∈ BIG := big_in4 116 _ rfl rfl
theorem bw_838 : (Cond.instanceMethod ({ cls := "SweetWrapsModel", name := "flavoursOf", desc := "(I)I" } : MethodName)) ∈ BIG := big_in4 118 _ rfl rfl
theorem bw_839 : (Cond.code ({ cls := "SweetWrapsModel", name := "flavoursOf", desc := "(I)I" } : MethodName) prog_8_method_17_code (4 : Nat) (Option.some ClassFile.FieldType.int)) ∈ BIG := big_in4 119 _ rfl rfl
theorem bw_840 : (Cond.methodLink "SweetWrapsModel" (78 : Nat) ({ cls := "SweetWrapsModel", name := "tryOnce", desc := "(I)I" } : MethodName)) ∈ BIG := big_in4 120 _ rfl rfl
theorem bw_842 : (Cond.instanceMethod ({ cls := "SweetWrapsModel", name := "tryOnce", desc := "(I)I" } : MethodName)) ∈ BIG := big_in4 122 _ rfl rfl
theorem bw_843 : (Cond.code ({ cls := "SweetWrapsModel", name := "tryOnce", desc := "(I)I" } : MethodName) prog_8_method_21_code (7 : Nat) (Option.some ClassFile.FieldType.int)) ∈ BIG := big_in4 123 _ rfl rfl
theorem bw_844 : (Cond.methodLink "SweetWrapsModel" (71 : Nat) ({ cls := "SweetWrapsModel", name := "takeSweet", desc := "(I)V" } : MethodName)) ∈ BIG := big_in4 124 _ rfl rfl
theorem bw_846 : (Cond.instanceMethod ({ cls := "SweetWrapsModel", name := "takeSweet", desc := "(I)V" } : MethodName)) ∈ BIG := big_in4 126 _ rfl rfl
theorem bw_847 : (Cond.code ({ cls := "SweetWrapsModel", name := "takeSweet", desc := "(I)V" } : MethodName) prog_8_method_13_code (4 : Nat) (Option.none : Option ClassFile.FieldType)) ∈ BIG := big_in4 127 _ rfl rfl
theorem bw_848 : (Cond.methodLink "SweetWrapsLaw" (48 : Nat) ({ cls := "SweetWrapsModel", name := "of", desc := "(II)I" } : MethodName)) ∈ BIG := big_in4 128 _ rfl rfl
theorem bw_849 : (Cond.instanceMethod ({ cls := "SweetWrapsModel", name := "of", desc := "(II)I" } : MethodName)) ∈ BIG := big_in4 129 _ rfl rfl
theorem bw_850 : (Cond.selects "SweetWrapsModel" ({ cls := "SweetWrapsModel", name := "of", desc := "(II)I" } : MethodName) ({ cls := "SweetWrapsModel", name := "of", desc := "(II)I" } : MethodName)) ∈ BIG := big_in4 130 _ rfl rfl
theorem bw_851 : (Cond.code ({ cls := "SweetWrapsModel", name := "of", desc := "(II)I" } : MethodName) prog_8_method_40_code (3 : Nat) (Option.some ClassFile.FieldType.int)) ∈ BIG := big_in4 131 _ rfl rfl
theorem bw_852 : (Cond.methodLink "SweetWrapsLaw" (52 : Nat) ({ cls := "SweetWrapsModel", name := "ofHeap", desc := "(III)I" } : MethodName)) ∈ BIG := big_in4 132 _ rfl rfl
theorem bw_853 : (Cond.instanceMethod ({ cls := "SweetWrapsModel", name := "ofHeap", desc := "(III)I" } : MethodName)) ∈ BIG := big_in4 133 _ rfl rfl
theorem bw_854 : (Cond.selects "SweetWrapsModel" ({ cls := "SweetWrapsModel", name := "ofHeap", desc := "(III)I" } : MethodName) ({ cls := "SweetWrapsModel", name := "ofHeap", desc := "(III)I" } : MethodName)) ∈ BIG := big_in4 134 _ rfl rfl
theorem bw_855 : (Cond.code ({ cls := "SweetWrapsModel", name := "ofHeap", desc := "(III)I" } : MethodName) prog_8_method_41_code (4 : Nat) (Option.some ClassFile.FieldType.int)) ∈ BIG := big_in4 135 _ rfl rfl
theorem bw_856 : (Cond.methodLink "SweetWrapsLaw" (56 : Nat) ({ cls := "SweetWrapsModel", name := "ofTin", desc := "(II)I" } : MethodName)) ∈ BIG := big_in4 136 _ rfl rfl
theorem bw_857 : (Cond.instanceMethod ({ cls := "SweetWrapsModel", name := "ofTin", desc := "(II)I" } : MethodName)) ∈ BIG := big_in4 137 _ rfl rfl
theorem bw_858 : (Cond.selects "SweetWrapsModel" ({ cls := "SweetWrapsModel", name := "ofTin", desc := "(II)I" } : MethodName) ({ cls := "SweetWrapsModel", name := "ofTin", desc := "(II)I" } : MethodName)) ∈ BIG := big_in4 138 _ rfl rfl
theorem bw_859 : (Cond.code ({ cls := "SweetWrapsModel", name := "ofTin", desc := "(II)I" } : MethodName) prog_8_method_43_code (3 : Nat) (Option.some ClassFile.FieldType.int)) ∈ BIG := big_in4 139 _ rfl rfl
theorem bw_860 : (Cond.methodLink "SweetWrapsModel" (132 : Nat) ({ cls := "SweetWrapsModel", name := "taken", desc := "(I)I" } : MethodName)) ∈ BIG := big_in4 140 _ rfl rfl
theorem bw_862 : (Cond.instanceMethod ({ cls := "SweetWrapsModel", name := "taken", desc := "(I)I" } : MethodName)) ∈ BIG := big_in4 142 _ rfl rfl
theorem bw_863 : (Cond.code ({ cls := "SweetWrapsModel", name := "taken", desc := "(I)I" } : MethodName) prog_8_method_42_code (4 : Nat) (Option.some ClassFile.FieldType.int)) ∈ BIG := big_in4 143 _ rfl rfl
theorem bw_864 : (Cond.methodLink "SweetWrapsLaw" (60 : Nat) ({ cls := "SweetWrapsModel", name := "inTin", desc := "(II)I" } : MethodName)) ∈ BIG := big_in4 144 _ rfl rfl
theorem bw_865 : (Cond.instanceMethod ({ cls := "SweetWrapsModel", name := "inTin", desc := "(II)I" } : MethodName)) ∈ BIG := big_in4 145 _ rfl rfl
theorem bw_866 : (Cond.selects "SweetWrapsModel" ({ cls := "SweetWrapsModel", name := "inTin", desc := "(II)I" } : MethodName) ({ cls := "SweetWrapsModel", name := "inTin", desc := "(II)I" } : MethodName)) ∈ BIG := big_in4 146 _ rfl rfl
theorem bw_867 : (Cond.code ({ cls := "SweetWrapsModel", name := "inTin", desc := "(II)I" } : MethodName) prog_8_method_44_code (3 : Nat) (Option.some ClassFile.FieldType.int)) ∈ BIG := big_in4 147 _ rfl rfl
theorem bw_868 : (Cond.methodLink "SweetWrapsLaw" (64 : Nat) ({ cls := "SweetWrapsModel", name := "flavour", desc := "(II)I" } : MethodName)) ∈ BIG := big_in4 148 _ rfl rfl
theorem bw_869 : (Cond.instanceMethod ({ cls := "SweetWrapsModel", name := "flavour", desc := "(II)I" } : MethodName)) ∈ BIG := big_in4 149 _ rfl rfl
theorem bw_870 : (Cond.selects "SweetWrapsModel" ({ cls := "SweetWrapsModel", name := "flavour", desc := "(II)I" } : MethodName) ({ cls := "SweetWrapsModel", name := "flavour", desc := "(II)I" } : MethodName)) ∈ BIG := big_in4 150 _ rfl rfl
theorem bw_871 : (Cond.code ({ cls := "SweetWrapsModel", name := "flavour", desc := "(II)I" } : MethodName) prog_8_method_47_code (3 : Nat) (Option.some ClassFile.FieldType.int)) ∈ BIG := big_in4 151 _ rfl rfl
theorem bw_872 : (Cond.methodLink "SweetWrapsModel" (135 : Nat) ({ cls := "SweetWrapsModel", name := "inHoppers", desc := "(I)I" } : MethodName)) ∈ BIG := big_in4 152 _ rfl rfl
theorem bw_874 : (Cond.instanceMethod ({ cls := "SweetWrapsModel", name := "inHoppers", desc := "(I)I" } : MethodName)) ∈ BIG := big_in4 154 _ rfl rfl
theorem bw_875 : (Cond.code ({ cls := "SweetWrapsModel", name := "inHoppers", desc := "(I)I" } : MethodName) prog_8_method_45_code (5 : Nat) (Option.some ClassFile.FieldType.int)) ∈ BIG := big_in4 155 _ rfl rfl
theorem bw_876 : (Cond.methodLink "SweetWrapsModel" (138 : Nat) ({ cls := "SweetWrapsModel", name := "inTins", desc := "(II)I" } : MethodName)) ∈ BIG := big_in4 156 _ rfl rfl
theorem bw_878 : (Cond.instanceMethod ({ cls := "SweetWrapsModel", name := "inTins", desc := "(II)I" } : MethodName)) ∈ BIG := big_in4 158 _ rfl rfl
theorem bw_879 : (Cond.code ({ cls := "SweetWrapsModel", name := "inTins", desc := "(II)I" } : MethodName) prog_8_method_46_code (5 : Nat) (Option.some ClassFile.FieldType.int)) ∈ BIG := big_in4 159 _ rfl rfl
theorem bw_880 : (Cond.methodLink "SweetWrapsLaw" (68 : Nat) ({ cls := "SweetWrapsModel", name := "byRoom", desc := "(I)I" } : MethodName)) ∈ BIG := big_in4 160 _ rfl rfl
theorem bw_881 : (Cond.instanceMethod ({ cls := "SweetWrapsModel", name := "byRoom", desc := "(I)I" } : MethodName)) ∈ BIG := big_in4 161 _ rfl rfl
theorem bw_882 : (Cond.selects "SweetWrapsModel" ({ cls := "SweetWrapsModel", name := "byRoom", desc := "(I)I" } : MethodName) ({ cls := "SweetWrapsModel", name := "byRoom", desc := "(I)I" } : MethodName)) ∈ BIG := big_in4 162 _ rfl rfl
theorem bw_883 : (Cond.code ({ cls := "SweetWrapsModel", name := "byRoom", desc := "(I)I" } : MethodName) prog_8_method_48_code (6 : Nat) (Option.some ClassFile.FieldType.int)) ∈ BIG := big_in4 163 _ rfl rfl
theorem bw_884 : (Cond.methodLink "SweetWrapsLaw" (72 : Nat) ({ cls := "SweetWrapsModel", name := "byCount", desc := "(I)I" } : MethodName)) ∈ BIG := big_in4 164 _ rfl rfl
theorem bw_885 : (Cond.instanceMethod ({ cls := "SweetWrapsModel", name := "byCount", desc := "(I)I" } : MethodName)) ∈ BIG := big_in4 165 _ rfl rfl
theorem bw_886 : (Cond.selects "SweetWrapsModel" ({ cls := "SweetWrapsModel", name := "byCount", desc := "(I)I" } : MethodName) ({ cls := "SweetWrapsModel", name := "byCount", desc := "(I)I" } : MethodName)) ∈ BIG := big_in4 166 _ rfl rfl
theorem bw_887 : (Cond.code ({ cls := "SweetWrapsModel", name := "byCount", desc := "(I)I" } : MethodName) prog_8_method_50_code (5 : Nat) (Option.some ClassFile.FieldType.int)) ∈ BIG := big_in4 167 _ rfl rfl
theorem bw_888 : (Cond.methodLink "SweetWrapsModel" (141 : Nat) ({ cls := "SweetWrapsModel", name := "inAll", desc := "(I)I" } : MethodName)) ∈ BIG := big_in4 168 _ rfl rfl
theorem bw_890 : (Cond.instanceMethod ({ cls := "SweetWrapsModel", name := "inAll", desc := "(I)I" } : MethodName)) ∈ BIG := big_in4 170 _ rfl rfl
theorem bw_891 : (Cond.code ({ cls := "SweetWrapsModel", name := "inAll", desc := "(I)I" } : MethodName) prog_8_method_49_code (2 : Nat) (Option.some ClassFile.FieldType.int)) ∈ BIG := big_in4 171 _ rfl rfl
theorem bw_892 : (Cond.methodLink "SweetWrapsLaw" (76 : Nat) ({ cls := "SweetWrapsModel", name := "count", desc := "(I)I" } : MethodName)) ∈ BIG := big_in4 172 _ rfl rfl
theorem bw_893 : (Cond.instanceMethod ({ cls := "SweetWrapsModel", name := "count", desc := "(I)I" } : MethodName)) ∈ BIG := big_in4 173 _ rfl rfl
theorem bw_894 : (Cond.selects "SweetWrapsModel" ({ cls := "SweetWrapsModel", name := "count", desc := "(I)I" } : MethodName) ({ cls := "SweetWrapsModel", name := "count", desc := "(I)I" } : MethodName)) ∈ BIG := big_in4 174 _ rfl rfl
theorem bw_895 : (Cond.code ({ cls := "SweetWrapsModel", name := "count", desc := "(I)I" } : MethodName) prog_8_method_55_code (2 : Nat) (Option.some ClassFile.FieldType.int)) ∈ BIG := big_in4 175 _ rfl rfl
theorem bw_896 : (Cond.methodLink "SweetWrapsModel" (144 : Nat) ({ cls := "SweetWrapsModel", name := "tinSet", desc := "(I)I" } : MethodName)) ∈ BIG := big_in4 176 _ rfl rfl
theorem bw_898 : (Cond.instanceMethod ({ cls := "SweetWrapsModel", name := "tinSet", desc := "(I)I" } : MethodName)) ∈ BIG := big_in4 178 _ rfl rfl
theorem bw_899 : (Cond.code ({ cls := "SweetWrapsModel", name := "tinSet", desc := "(I)I" } : MethodName) prog_8_method_51_code (4 : Nat) (Option.some ClassFile.FieldType.int)) ∈ BIG := big_in4 179 _ rfl rfl
theorem bw_900 : (Cond.methodLink "SweetWrapsModel" (147 : Nat) ({ cls := "SweetWrapsModel", name := "lanes", desc := "(I)I" } : MethodName)) ∈ BIG := big_in4 180 _ rfl rfl
theorem bw_902 : (Cond.instanceMethod ({ cls := "SweetWrapsModel", name := "lanes", desc := "(I)I" } : MethodName)) ∈ BIG := big_in4 182 _ rfl rfl
theorem bw_903 : (Cond.code ({ cls := "SweetWrapsModel", name := "lanes", desc := "(I)I" } : MethodName) prog_8_method_52_code (4 : Nat) (Option.some ClassFile.FieldType.int)) ∈ BIG := big_in4 183 _ rfl rfl
theorem bw_904 : (Cond.methodLink "SweetWrapsModel" (150 : Nat) ({ cls := "SweetWrapsModel", name := "shippedSweets", desc := "()I" } : MethodName)) ∈ BIG := big_in4 184 _ rfl rfl
theorem bw_906 : (Cond.instanceMethod ({ cls := "SweetWrapsModel", name := "shippedSweets", desc := "()I" } : MethodName)) ∈ BIG := big_in4 186 _ rfl rfl
theorem bw_907 : (Cond.code ({ cls := "SweetWrapsModel", name := "shippedSweets", desc := "()I" } : MethodName) prog_8_method_53_code (3 : Nat) (Option.some ClassFile.FieldType.int)) ∈ BIG := big_in4 187 _ rfl rfl
theorem bw_908 : (Cond.methodLink "SweetWrapsModel" (153 : Nat) ({ cls := "SweetWrapsModel", name := "failing", desc := "()I" } : MethodName)) ∈ BIG := big_in4 188 _ rfl rfl
theorem bw_910 : (Cond.instanceMethod ({ cls := "SweetWrapsModel", name := "failing", desc := "()I" } : MethodName)) ∈ BIG := big_in4 190 _ rfl rfl
theorem bw_911 : (Cond.code ({ cls := "SweetWrapsModel", name := "failing", desc := "()I" } : MethodName) prog_8_method_54_code (3 : Nat) (Option.some ClassFile.FieldType.int)) ∈ BIG := big_in4 191 _ rfl rfl
theorem bw_912 : (Cond.methodLink "SweetWrapsLaw" (80 : Nat) ({ cls := "SweetWrapsModel", name := "stands", desc := "(II)I" } : MethodName)) ∈ BIG := big_in4 192 _ rfl rfl
theorem bw_913 : (Cond.instanceMethod ({ cls := "SweetWrapsModel", name := "stands", desc := "(II)I" } : MethodName)) ∈ BIG := big_in4 193 _ rfl rfl
theorem bw_914 : (Cond.selects "SweetWrapsModel" ({ cls := "SweetWrapsModel", name := "stands", desc := "(II)I" } : MethodName) ({ cls := "SweetWrapsModel", name := "stands", desc := "(II)I" } : MethodName)) ∈ BIG := big_in4 194 _ rfl rfl
theorem bw_915 : (Cond.code ({ cls := "SweetWrapsModel", name := "stands", desc := "(II)I" } : MethodName) prog_8_method_56_code (6 : Nat) (Option.some ClassFile.FieldType.int)) ∈ BIG := big_in4 195 _ rfl rfl
theorem bw_916 : (Cond.methodLink "SweetWrapsModel" (159 : Nat) ({ cls := "SweetWrapsModel", name := "putBack", desc := "()V" } : MethodName)) ∈ BIG := big_in4 196 _ rfl rfl
theorem bw_918 : (Cond.instanceMethod ({ cls := "SweetWrapsModel", name := "putBack", desc := "()V" } : MethodName)) ∈ BIG := big_in4 198 _ rfl rfl
theorem bw_919 : (Cond.code ({ cls := "SweetWrapsModel", name := "putBack", desc := "()V" } : MethodName) prog_8_method_5_code (2 : Nat) (Option.none : Option ClassFile.FieldType)) ∈ BIG := big_in4 199 _ rfl rfl
theorem bw_920 : (Cond.methodLink "SweetWrapsLaw" (84 : Nat) ({ cls := "SweetWrapsModel", name := "bestSpeed", desc := "(II)I" } : MethodName)) ∈ BIG := big_in4 200 _ rfl rfl
theorem bw_921 : (Cond.instanceMethod ({ cls := "SweetWrapsModel", name := "bestSpeed", desc := "(II)I" } : MethodName)) ∈ BIG := big_in4 201 _ rfl rfl
theorem bw_922 : (Cond.selects "SweetWrapsModel" ({ cls := "SweetWrapsModel", name := "bestSpeed", desc := "(II)I" } : MethodName) ({ cls := "SweetWrapsModel", name := "bestSpeed", desc := "(II)I" } : MethodName)) ∈ BIG := big_in4 202 _ rfl rfl
theorem bw_923 : (Cond.code ({ cls := "SweetWrapsModel", name := "bestSpeed", desc := "(II)I" } : MethodName) prog_8_method_57_code (7 : Nat) (Option.some ClassFile.FieldType.int)) ∈ BIG := big_in4 203 _ rfl rfl
theorem bw_924 : (Cond.methodLink "SweetWrapsLaw" (88 : Nat) ({ cls := "SweetWrapsModel", name := "ifApart", desc := "(III)I" } : MethodName)) ∈ BIG := big_in4 204 _ rfl rfl
theorem bw_925 : (Cond.instanceMethod ({ cls := "SweetWrapsModel", name := "ifApart", desc := "(III)I" } : MethodName)) ∈ BIG := big_in4 205 _ rfl rfl
theorem bw_926 : (Cond.selects "SweetWrapsModel" ({ cls := "SweetWrapsModel", name := "ifApart", desc := "(III)I" } : MethodName) ({ cls := "SweetWrapsModel", name := "ifApart", desc := "(III)I" } : MethodName)) ∈ BIG := big_in4 206 _ rfl rfl
theorem bw_927 : (Cond.code ({ cls := "SweetWrapsModel", name := "ifApart", desc := "(III)I" } : MethodName) prog_8_method_58_code (5 : Nat) (Option.some ClassFile.FieldType.int)) ∈ BIG := big_in4 207 _ rfl rfl
theorem bw_928 : (Cond.methodLink "SweetWrapsLaw" (92 : Nat) ({ cls := "SweetWrapsModel", name := "tinsFor", desc := "()I" } : MethodName)) ∈ BIG := big_in4 208 _ rfl rfl
theorem bw_929 : (Cond.instanceMethod ({ cls := "SweetWrapsModel", name := "tinsFor", desc := "()I" } : MethodName)) ∈ BIG := big_in4 209 _ rfl rfl
theorem bw_930 : (Cond.selects "SweetWrapsModel" ({ cls := "SweetWrapsModel", name := "tinsFor", desc := "()I" } : MethodName) ({ cls := "SweetWrapsModel", name := "tinsFor", desc := "()I" } : MethodName)) ∈ BIG := big_in4 210 _ rfl rfl
theorem bw_931 : (Cond.code ({ cls := "SweetWrapsModel", name := "tinsFor", desc := "()I" } : MethodName) prog_8_method_59_code (3 : Nat) (Option.some ClassFile.FieldType.int)) ∈ BIG := big_in4 211 _ rfl rfl
theorem bw_932 : (Cond.methodLink "SweetWrapsLaw" (99 : Nat) ({ cls := "SweetWrapsModel", name := "put", desc := "(J)I" } : MethodName)) ∈ BIG := big_in4 212 _ rfl rfl
theorem bw_933 : (Cond.instanceMethod ({ cls := "SweetWrapsModel", name := "put", desc := "(J)I" } : MethodName)) ∈ BIG := big_in4 213 _ rfl rfl
theorem bw_934 : (Cond.selects "SweetWrapsModel" ({ cls := "SweetWrapsModel", name := "put", desc := "(J)I" } : MethodName) ({ cls := "SweetWrapsModel", name := "put", desc := "(J)I" } : MethodName)) ∈ BIG := big_in4 214 _ rfl rfl
theorem bw_935 : (Cond.code ({ cls := "SweetWrapsModel", name := "put", desc := "(J)I" } : MethodName) prog_8_method_61_code (5 : Nat) (Option.some ClassFile.FieldType.int)) ∈ BIG := big_in4 215 _ rfl rfl
theorem bw_936 : (Cond.methodLink "SweetWrapsModel" (164 : Nat) ({ cls := "SweetWrapsModel", name := "code", desc := "(JI)I" } : MethodName)) ∈ BIG := big_in4 216 _ rfl rfl
theorem bw_937 : (Cond.static ({ cls := "SweetWrapsModel", name := "code", desc := "(JI)I" } : MethodName)) ∈ BIG := big_in4 217 _ rfl rfl
theorem bw_938 : (Cond.code ({ cls := "SweetWrapsModel", name := "code", desc := "(JI)I" } : MethodName) prog_8_method_60_code (3 : Nat) (Option.some ClassFile.FieldType.int)) ∈ BIG := big_in4 218 _ rfl rfl
theorem bw_939 : (Cond.constantLong "SweetWrapsModel" (162 : Nat) (255 : Int64)) ∈ BIG := big_in4 219 _ rfl rfl
theorem bw_940 : (Cond.methodLink "SweetWrapsLaw" (103 : Nat) ({ cls := "SweetWrapsModel", name := "wipe", desc := "()I" } : MethodName)) ∈ BIG := big_in4 220 _ rfl rfl
theorem bw_941 : (Cond.instanceMethod ({ cls := "SweetWrapsModel", name := "wipe", desc := "()I" } : MethodName)) ∈ BIG := big_in4 221 _ rfl rfl
theorem bw_942 : (Cond.selects "SweetWrapsModel" ({ cls := "SweetWrapsModel", name := "wipe", desc := "()I" } : MethodName) ({ cls := "SweetWrapsModel", name := "wipe", desc := "()I" } : MethodName)) ∈ BIG := big_in4 222 _ rfl rfl
theorem bw_943 : (Cond.code ({ cls := "SweetWrapsModel", name := "wipe", desc := "()I" } : MethodName) prog_8_method_62_code (2 : Nat) (Option.some ClassFile.FieldType.int)) ∈ BIG := big_in4 223 _ rfl rfl
theorem bw_944 : (Cond.methodLink "SweetWrapsLaw" (107 : Nat) ({ cls := "SweetWrapsModel", name := "fault", desc := "()I" } : MethodName)) ∈ BIG := big_in4 224 _ rfl rfl
theorem bw_945 : (Cond.instanceMethod ({ cls := "SweetWrapsModel", name := "fault", desc := "()I" } : MethodName)) ∈ BIG := big_in4 225 _ rfl rfl
theorem bw_946 : (Cond.selects "SweetWrapsModel" ({ cls := "SweetWrapsModel", name := "fault", desc := "()I" } : MethodName) ({ cls := "SweetWrapsModel", name := "fault", desc := "()I" } : MethodName)) ∈ BIG := big_in4 226 _ rfl rfl
theorem bw_947 : (Cond.code ({ cls := "SweetWrapsModel", name := "fault", desc := "()I" } : MethodName) prog_8_method_68_code (2 : Nat) (Option.some ClassFile.FieldType.int)) ∈ BIG := big_in4 227 _ rfl rfl
theorem bw_948 : (Cond.methodLink "SweetWrapsModel" (188 : Nat) ({ cls := "SweetWrapsModel", name := "go", desc := "(Z)I" } : MethodName)) ∈ BIG := big_in4 228 _ rfl rfl
theorem bw_950 : (Cond.instanceMethod ({ cls := "SweetWrapsModel", name := "go", desc := "(Z)I" } : MethodName)) ∈ BIG := big_in4 230 _ rfl rfl
theorem bw_951 : (Cond.code ({ cls := "SweetWrapsModel", name := "go", desc := "(Z)I" } : MethodName) prog_8_method_67_code (5 : Nat) (Option.some ClassFile.FieldType.int)) ∈ BIG := big_in4 231 _ rfl rfl
theorem bw_952 : (Cond.methodLink "SweetWrapsModel" (184 : Nat) ({ cls := "SweetWrapsModel", name := "order", desc := "(Z)I" } : MethodName)) ∈ BIG := big_in4 232 _ rfl rfl
theorem bw_954 : (Cond.instanceMethod ({ cls := "SweetWrapsModel", name := "order", desc := "(Z)I" } : MethodName)) ∈ BIG := big_in4 234 _ rfl rfl
theorem bw_955 : (Cond.code ({ cls := "SweetWrapsModel", name := "order", desc := "(Z)I" } : MethodName) prog_8_method_66_code (7 : Nat) (Option.some ClassFile.FieldType.int)) ∈ BIG := big_in4 235 _ rfl rfl
theorem bw_956 : (Cond.methodLink "SweetWrapsModel" (178 : Nat) ({ cls := "SweetWrapsModel", name := "isNext", desc := "(I)Z" } : MethodName)) ∈ BIG := big_in4 236 _ rfl rfl
theorem bw_958 : (Cond.instanceMethod ({ cls := "SweetWrapsModel", name := "isNext", desc := "(I)Z" } : MethodName)) ∈ BIG := big_in4 238 _ rfl rfl
theorem bw_959 : (Cond.code ({ cls := "SweetWrapsModel", name := "isNext", desc := "(I)Z" } : MethodName) prog_8_method_65_code (2 : Nat) (Option.some ClassFile.FieldType.boolean)) ∈ BIG := big_in4 239 _ rfl rfl
theorem bw_960 : (Cond.methodLink "SweetWrapsModel" (175 : Nat) ({ cls := "SweetWrapsModel", name := "sign", desc := "(II)I" } : MethodName)) ∈ BIG := big_in5 0 _ rfl rfl
theorem bw_962 : (Cond.instanceMethod ({ cls := "SweetWrapsModel", name := "sign", desc := "(II)I" } : MethodName)) ∈ BIG := big_in5 2 _ rfl rfl
theorem bw_963 : (Cond.code ({ cls := "SweetWrapsModel", name := "sign", desc := "(II)I" } : MethodName) prog_8_method_63_code (4 : Nat) (Option.some ClassFile.FieldType.int)) ∈ BIG := big_in5 3 _ rfl rfl
theorem bw_964 : (Cond.methodLink "SweetWrapsModel" (181 : Nat) ({ cls := "SweetWrapsModel", name := "number", desc := "()I" } : MethodName)) ∈ BIG := big_in5 4 _ rfl rfl
theorem bw_966 : (Cond.instanceMethod ({ cls := "SweetWrapsModel", name := "number", desc := "()I" } : MethodName)) ∈ BIG := big_in5 6 _ rfl rfl
theorem bw_967 : (Cond.code ({ cls := "SweetWrapsModel", name := "number", desc := "()I" } : MethodName) prog_8_method_64_code (2 : Nat) (Option.some ClassFile.FieldType.int)) ∈ BIG := big_in5 7 _ rfl rfl
theorem bw_968 : (Cond.methodLink "SweetWrapsLaw" (111 : Nat) ({ cls := "SweetWrapsModel", name := "carryOut", desc := "()I" } : MethodName)) ∈ BIG := big_in5 8 _ rfl rfl
theorem bw_969 : (Cond.instanceMethod ({ cls := "SweetWrapsModel", name := "carryOut", desc := "()I" } : MethodName)) ∈ BIG := big_in5 9 _ rfl rfl
theorem bw_970 : (Cond.selects "SweetWrapsModel" ({ cls := "SweetWrapsModel", name := "carryOut", desc := "()I" } : MethodName) ({ cls := "SweetWrapsModel", name := "carryOut", desc := "()I" } : MethodName)) ∈ BIG := big_in5 10 _ rfl rfl
theorem bw_971 : (Cond.code ({ cls := "SweetWrapsModel", name := "carryOut", desc := "()I" } : MethodName) prog_8_method_69_code (3 : Nat) (Option.some ClassFile.FieldType.int)) ∈ BIG := big_in5 11 _ rfl rfl
theorem bw_972 : (Cond.methodLink "SweetWrapsLaw" (115 : Nat) ({ cls := "SweetWrapsModel", name := "undo", desc := "()I" } : MethodName)) ∈ BIG := big_in5 12 _ rfl rfl
theorem bw_973 : (Cond.instanceMethod ({ cls := "SweetWrapsModel", name := "undo", desc := "()I" } : MethodName)) ∈ BIG := big_in5 13 _ rfl rfl
theorem bw_974 : (Cond.selects "SweetWrapsModel" ({ cls := "SweetWrapsModel", name := "undo", desc := "()I" } : MethodName) ({ cls := "SweetWrapsModel", name := "undo", desc := "()I" } : MethodName)) ∈ BIG := big_in5 14 _ rfl rfl
theorem bw_975 : (Cond.code ({ cls := "SweetWrapsModel", name := "undo", desc := "()I" } : MethodName) prog_8_method_70_code (2 : Nat) (Option.some ClassFile.FieldType.int)) ∈ BIG := big_in5 15 _ rfl rfl
theorem bw_976 : (Cond.methodLink "SweetWrapsLaw" (119 : Nat) ({ cls := "SweetWrapsModel", name := "save", desc := "(I)I" } : MethodName)) ∈ BIG := big_in5 16 _ rfl rfl
theorem bw_977 : (Cond.instanceMethod ({ cls := "SweetWrapsModel", name := "save", desc := "(I)I" } : MethodName)) ∈ BIG := big_in5 17 _ rfl rfl
theorem bw_978 : (Cond.selects "SweetWrapsModel" ({ cls := "SweetWrapsModel", name := "save", desc := "(I)I" } : MethodName) ({ cls := "SweetWrapsModel", name := "save", desc := "(I)I" } : MethodName)) ∈ BIG := big_in5 18 _ rfl rfl
theorem bw_979 : (Cond.code ({ cls := "SweetWrapsModel", name := "save", desc := "(I)I" } : MethodName) prog_8_method_71_code (3 : Nat) (Option.some ClassFile.FieldType.int)) ∈ BIG := big_in5 19 _ rfl rfl
theorem bw_980 : (Cond.methodLink "SweetWrapsLaw" (123 : Nat) ({ cls := "SweetWrapsModel", name := "restore", desc := "(I)I" } : MethodName)) ∈ BIG := big_in5 20 _ rfl rfl
theorem bw_981 : (Cond.instanceMethod ({ cls := "SweetWrapsModel", name := "restore", desc := "(I)I" } : MethodName)) ∈ BIG := big_in5 21 _ rfl rfl
theorem bw_982 : (Cond.selects "SweetWrapsModel" ({ cls := "SweetWrapsModel", name := "restore", desc := "(I)I" } : MethodName) ({ cls := "SweetWrapsModel", name := "restore", desc := "(I)I" } : MethodName)) ∈ BIG := big_in5 22 _ rfl rfl
theorem bw_983 : (Cond.code ({ cls := "SweetWrapsModel", name := "restore", desc := "(I)I" } : MethodName) prog_8_method_72_code (3 : Nat) (Option.some ClassFile.FieldType.int)) ∈ BIG := big_in5 23 _ rfl rfl
theorem bw_984 : (Cond.constantLong "SweetWrapsLaw" (93 : Nat) (4294967295 : Int64)) ∈ BIG := big_in5 24 _ rfl rfl
theorem bw_985 : (Cond.fieldLink "java/lang/String" (9 : Nat) "java/lang/String" "value" "[B") ∈ BIG := big_in5 25 _ rfl rfl
theorem bw_986 : (Cond.fieldLink "java/lang/String" (15 : Nat) "java/lang/String" "coder" "B") ∈ BIG := big_in5 26 _ rfl rfl
theorem bs_0 : Cond.selects "SweetWraps$History" ({ cls := "SweetWraps$History", name := "dropOldest", desc := "()V" } : MethodName) ({ cls := "SweetWraps$History", name := "dropOldest", desc := "()V" } : MethodName) ∈ BIG := big_sel 0 _ rfl
theorem bs_1 : Cond.selects "SweetWraps$Machine" ({ cls := "SweetWraps$Machine", name := "isTin", desc := "(I)Z" } : MethodName) ({ cls := "SweetWraps$Machine", name := "isTin", desc := "(I)Z" } : MethodName) ∈ BIG := big_sel 1 _ rfl
theorem bs_2 : Cond.selects "SweetWraps$Machine" ({ cls := "SweetWraps$Machine", name := "isOpenTinWithBoth", desc := "(II)Z" } : MethodName) ({ cls := "SweetWraps$Machine", name := "isOpenTinWithBoth", desc := "(II)Z" } : MethodName) ∈ BIG := big_sel 2 _ rfl
theorem bs_3 : Cond.selects "SweetWraps$Machine" ({ cls := "SweetWraps$Machine", name := "isOpen", desc := "(I)Z" } : MethodName) ({ cls := "SweetWraps$Machine", name := "isOpen", desc := "(I)Z" } : MethodName) ∈ BIG := big_sel 3 _ rfl
theorem bs_4 : Cond.selects "SweetWraps$Machine" ({ cls := "SweetWraps$Machine", name := "workLane", desc := "(LSweetWraps$Lane;)I" } : MethodName) ({ cls := "SweetWraps$Machine", name := "workLane", desc := "(LSweetWraps$Lane;)I" } : MethodName) ∈ BIG := big_sel 4 _ rfl
theorem bs_5 : Cond.selects "SweetWraps$Machine" ({ cls := "SweetWraps$Machine", name := "foilOfPull", desc := "()I" } : MethodName) ({ cls := "SweetWraps$Machine", name := "foilOfPull", desc := "()I" } : MethodName) ∈ BIG := big_sel 5 _ rfl
theorem bs_6 : Cond.selects "SweetWraps$Machine" ({ cls := "SweetWraps$Machine", name := "pullsUntilTear", desc := "()I" } : MethodName) ({ cls := "SweetWraps$Machine", name := "pullsUntilTear", desc := "()I" } : MethodName) ∈ BIG := big_sel 6 _ rfl
theorem bs_7 : Cond.selects "SweetWraps$Machine" ({ cls := "SweetWraps$Machine", name := "tinFor", desc := "(I)I" } : MethodName) ({ cls := "SweetWraps$Machine", name := "tinFor", desc := "(I)I" } : MethodName) ∈ BIG := big_sel 7 _ rfl
theorem bs_8 : Cond.selects "SweetWraps$Machine" ({ cls := "SweetWraps$Machine", name := "reasonOf", desc := "(LSweetWraps$Lane;I)I" } : MethodName) ({ cls := "SweetWraps$Machine", name := "reasonOf", desc := "(LSweetWraps$Lane;I)I" } : MethodName) ∈ BIG := big_sel 8 _ rfl
theorem bs_9 : Cond.selects "SweetWraps$Machine" ({ cls := "SweetWraps$Machine", name := "reasonNow", desc := "(LSweetWraps$Lane;)I" } : MethodName) ({ cls := "SweetWraps$Machine", name := "reasonNow", desc := "(LSweetWraps$Lane;)I" } : MethodName) ∈ BIG := big_sel 9 _ rfl
theorem bs_10 : Cond.selects "SweetWraps$Machine" ({ cls := "SweetWraps$Machine", name := "flavoursTakenBy", desc := "(LSweetWraps$Tin;)I" } : MethodName) ({ cls := "SweetWraps$Machine", name := "flavoursTakenBy", desc := "(LSweetWraps$Tin;)I" } : MethodName) ∈ BIG := big_sel 10 _ rfl
theorem bs_11 : Cond.selects "SweetWraps$Machine" ({ cls := "SweetWraps$Machine", name := "sweetsInHoppers", desc := "(I)I" } : MethodName) ({ cls := "SweetWraps$Machine", name := "sweetsInHoppers", desc := "(I)I" } : MethodName) ∈ BIG := big_sel 11 _ rfl
theorem bs_12 : Cond.selects "SweetWraps$Machine" ({ cls := "SweetWraps$Machine", name := "sweetsInTins", desc := "(IZ)I" } : MethodName) ({ cls := "SweetWraps$Machine", name := "sweetsInTins", desc := "(IZ)I" } : MethodName) ∈ BIG := big_sel 12 _ rfl
theorem bs_13 : Cond.selects "SweetWraps$Machine" ({ cls := "SweetWraps$Machine", name := "openTinsAhead", desc := "(I)I" } : MethodName) ({ cls := "SweetWraps$Machine", name := "openTinsAhead", desc := "(I)I" } : MethodName) ∈ BIG := big_sel 13 _ rfl
theorem bs_14 : Cond.selects "SweetWraps$Machine" ({ cls := "SweetWraps$Machine", name := "sweetsInAllTins", desc := "(I)I" } : MethodName) ({ cls := "SweetWraps$Machine", name := "sweetsInAllTins", desc := "(I)I" } : MethodName) ∈ BIG := big_sel 14 _ rfl
theorem bs_15 : Cond.selects "SweetWraps$Machine" ({ cls := "SweetWraps$Machine", name := "flavoursAhead", desc := "(I)I" } : MethodName) ({ cls := "SweetWraps$Machine", name := "flavoursAhead", desc := "(I)I" } : MethodName) ∈ BIG := big_sel 15 _ rfl
theorem bs_16 : Cond.selects "SweetWraps$Machine" ({ cls := "SweetWraps$Machine", name := "tinsThatAre", desc := "(Z)I" } : MethodName) ({ cls := "SweetWraps$Machine", name := "tinsThatAre", desc := "(Z)I" } : MethodName) ∈ BIG := big_sel 16 _ rfl
theorem bs_17 : Cond.selects "SweetWraps$Machine" ({ cls := "SweetWraps$Machine", name := "overLanes", desc := "(I)I" } : MethodName) ({ cls := "SweetWraps$Machine", name := "overLanes", desc := "(I)I" } : MethodName) ∈ BIG := big_sel 17 _ rfl
theorem bs_18 : Cond.selects "SweetWraps$Machine" ({ cls := "SweetWraps$Machine", name := "sweetsShipped", desc := "()I" } : MethodName) ({ cls := "SweetWraps$Machine", name := "sweetsShipped", desc := "()I" } : MethodName) ∈ BIG := big_sel 18 _ rfl
theorem bs_19 : Cond.selects "SweetWraps$Machine" ({ cls := "SweetWraps$Machine", name := "standingLanes", desc := "()I" } : MethodName) ({ cls := "SweetWraps$Machine", name := "standingLanes", desc := "()I" } : MethodName) ∈ BIG := big_sel 19 _ rfl
theorem bs_20 : Cond.selects "SweetWraps$Pad" ({ cls := "SweetWraps$Pad", name := "signHere", desc := "()I" } : MethodName) ({ cls := "SweetWraps$Pad", name := "signHere", desc := "()I" } : MethodName) ∈ BIG := big_sel 20 _ rfl
theorem bs_21 : Cond.selects "SweetWraps$Pad" ({ cls := "SweetWraps$Pad", name := "readPart", desc := "(I)Z" } : MethodName) ({ cls := "SweetWraps$Pad", name := "readPart", desc := "(I)Z" } : MethodName) ∈ BIG := big_sel 21 _ rfl
theorem bs_22 : Cond.selects "SweetWraps$Pad" ({ cls := "SweetWraps$Pad", name := "readDigit", desc := "()Z" } : MethodName) ({ cls := "SweetWraps$Pad", name := "readDigit", desc := "()Z" } : MethodName) ∈ BIG := big_sel 22 _ rfl
theorem bs_23 : Cond.selects "SweetWraps$Pad" ({ cls := "SweetWraps$Pad", name := "isDigitHere", desc := "()Z" } : MethodName) ({ cls := "SweetWraps$Pad", name := "isDigitHere", desc := "()Z" } : MethodName) ∈ BIG := big_sel 23 _ rfl
theorem bs_24 : Cond.selects "SweetWraps$Pad" ({ cls := "SweetWraps$Pad", name := "keepValue", desc := "(I)V" } : MethodName) ({ cls := "SweetWraps$Pad", name := "keepValue", desc := "(I)V" } : MethodName) ∈ BIG := big_sel 24 _ rfl
theorem bs_25 : Cond.selects "SweetWraps$Pad" ({ cls := "SweetWraps$Pad", name := "readNumber", desc := "()Z" } : MethodName) ({ cls := "SweetWraps$Pad", name := "readNumber", desc := "()Z" } : MethodName) ∈ BIG := big_sel 25 _ rfl
theorem bs_26 : Cond.selects "SweetWraps" ({ cls := "SweetWraps", name := "carryOrder", desc := "()I" } : MethodName) ({ cls := "SweetWraps", name := "carryOrder", desc := "()I" } : MethodName) ∈ BIG := big_sel 26 _ rfl
theorem bs_27 : Cond.selects "SweetWrapsModel" ({ cls := "SweetWrapsModel", name := "record", desc := "()V" } : MethodName) ({ cls := "SweetWrapsModel", name := "record", desc := "()V" } : MethodName) ∈ BIG := big_sel 27 _ rfl
theorem bs_28 : Cond.selects "SweetWrapsModel" ({ cls := "SweetWrapsModel", name := "putAside", desc := "()V" } : MethodName) ({ cls := "SweetWrapsModel", name := "putAside", desc := "()V" } : MethodName) ∈ BIG := big_sel 28 _ rfl
theorem bs_29 : Cond.selects "SweetWrapsModel" ({ cls := "SweetWrapsModel", name := "heaps", desc := "(III)I" } : MethodName) ({ cls := "SweetWrapsModel", name := "heaps", desc := "(III)I" } : MethodName) ∈ BIG := big_sel 29 _ rfl
theorem bs_30 : Cond.selects "SweetWrapsModel" ({ cls := "SweetWrapsModel", name := "heapFlavour", desc := "(II)I" } : MethodName) ({ cls := "SweetWrapsModel", name := "heapFlavour", desc := "(II)I" } : MethodName) ∈ BIG := big_sel 30 _ rfl
theorem bs_31 : Cond.selects "SweetWrapsModel" ({ cls := "SweetWrapsModel", name := "lane", desc := "(II)I" } : MethodName) ({ cls := "SweetWrapsModel", name := "lane", desc := "(II)I" } : MethodName) ∈ BIG := big_sel 31 _ rfl
theorem bs_32 : Cond.selects "SweetWrapsModel" ({ cls := "SweetWrapsModel", name := "inHopper", desc := "(I)I" } : MethodName) ({ cls := "SweetWrapsModel", name := "inHopper", desc := "(I)I" } : MethodName) ∈ BIG := big_sel 32 _ rfl
theorem bs_33 : Cond.selects "SweetWrapsModel" ({ cls := "SweetWrapsModel", name := "heapMany", desc := "(II)I" } : MethodName) ({ cls := "SweetWrapsModel", name := "heapMany", desc := "(II)I" } : MethodName) ∈ BIG := big_sel 33 _ rfl
theorem bs_34 : Cond.selects "SweetWrapsModel" ({ cls := "SweetWrapsModel", name := "end", desc := "(I)I" } : MethodName) ({ cls := "SweetWrapsModel", name := "end", desc := "(I)I" } : MethodName) ∈ BIG := big_sel 34 _ rfl
theorem bs_35 : Cond.selects "SweetWrapsModel" ({ cls := "SweetWrapsModel", name := "foils", desc := "(II)I" } : MethodName) ({ cls := "SweetWrapsModel", name := "foils", desc := "(II)I" } : MethodName) ∈ BIG := big_sel 35 _ rfl
theorem bs_36 : Cond.selects "SweetWrapsModel" ({ cls := "SweetWrapsModel", name := "tins", desc := "()I" } : MethodName) ({ cls := "SweetWrapsModel", name := "tins", desc := "()I" } : MethodName) ∈ BIG := big_sel 36 _ rfl
theorem bs_37 : Cond.selects "SweetWrapsModel" ({ cls := "SweetWrapsModel", name := "ships", desc := "(I)I" } : MethodName) ({ cls := "SweetWrapsModel", name := "ships", desc := "(I)I" } : MethodName) ∈ BIG := big_sel 37 _ rfl
theorem bs_38 : Cond.selects "SweetWrapsModel" ({ cls := "SweetWrapsModel", name := "isShipped", desc := "(I)Z" } : MethodName) ({ cls := "SweetWrapsModel", name := "isShipped", desc := "(I)Z" } : MethodName) ∈ BIG := big_sel 38 _ rfl
theorem bs_39 : Cond.selects "SweetWrapsModel" ({ cls := "SweetWrapsModel", name := "sweets", desc := "(I)I" } : MethodName) ({ cls := "SweetWrapsModel", name := "sweets", desc := "(I)I" } : MethodName) ∈ BIG := big_sel 39 _ rfl
theorem bs_40 : Cond.selects "SweetWrapsModel" ({ cls := "SweetWrapsModel", name := "inside", desc := "(II)I" } : MethodName) ({ cls := "SweetWrapsModel", name := "inside", desc := "(II)I" } : MethodName) ∈ BIG := big_sel 40 _ rfl
theorem bs_41 : Cond.selects "SweetWrapsModel" ({ cls := "SweetWrapsModel", name := "keepsApart", desc := "(II)I" } : MethodName) ({ cls := "SweetWrapsModel", name := "keepsApart", desc := "(II)I" } : MethodName) ∈ BIG := big_sel 41 _ rfl
theorem bs_42 : Cond.selects "SweetWrapsModel" ({ cls := "SweetWrapsModel", name := "areApart", desc := "(II)Z" } : MethodName) ({ cls := "SweetWrapsModel", name := "areApart", desc := "(II)Z" } : MethodName) ∈ BIG := big_sel 42 _ rfl
theorem bs_43 : Cond.selects "SweetWrapsModel" ({ cls := "SweetWrapsModel", name := "turn", desc := "(II)V" } : MethodName) ({ cls := "SweetWrapsModel", name := "turn", desc := "(II)V" } : MethodName) ∈ BIG := big_sel 43 _ rfl
theorem bs_44 : Cond.selects "SweetWrapsModel" ({ cls := "SweetWrapsModel", name := "goes", desc := "(I)I" } : MethodName) ({ cls := "SweetWrapsModel", name := "goes", desc := "(I)I" } : MethodName) ∈ BIG := big_sel 44 _ rfl
theorem bs_45 : Cond.selects "SweetWrapsModel" ({ cls := "SweetWrapsModel", name := "runs", desc := "(I)I" } : MethodName) ({ cls := "SweetWrapsModel", name := "runs", desc := "(I)I" } : MethodName) ∈ BIG := big_sel 45 _ rfl
theorem bs_46 : Cond.selects "SweetWrapsModel" ({ cls := "SweetWrapsModel", name := "tick", desc := "()I" } : MethodName) ({ cls := "SweetWrapsModel", name := "tick", desc := "()I" } : MethodName) ∈ BIG := big_sel 46 _ rfl
theorem bs_47 : Cond.selects "SweetWrapsModel" ({ cls := "SweetWrapsModel", name := "reason", desc := "(I)I" } : MethodName) ({ cls := "SweetWrapsModel", name := "reason", desc := "(I)I" } : MethodName) ∈ BIG := big_sel 47 _ rfl
theorem bs_48 : Cond.selects "SweetWrapsModel" ({ cls := "SweetWrapsModel", name := "tinFor", desc := "(I)I" } : MethodName) ({ cls := "SweetWrapsModel", name := "tinFor", desc := "(I)I" } : MethodName) ∈ BIG := big_sel 48 _ rfl
theorem bs_49 : Cond.selects "SweetWrapsModel" ({ cls := "SweetWrapsModel", name := "takes", desc := "(II)Z" } : MethodName) ({ cls := "SweetWrapsModel", name := "takes", desc := "(II)Z" } : MethodName) ∈ BIG := big_sel 49 _ rfl
theorem bs_50 : Cond.selects "SweetWrapsModel" ({ cls := "SweetWrapsModel", name := "flavoursOf", desc := "(I)I" } : MethodName) ({ cls := "SweetWrapsModel", name := "flavoursOf", desc := "(I)I" } : MethodName) ∈ BIG := big_sel 50 _ rfl
theorem bs_51 : Cond.selects "SweetWrapsModel" ({ cls := "SweetWrapsModel", name := "tryOnce", desc := "(I)I" } : MethodName) ({ cls := "SweetWrapsModel", name := "tryOnce", desc := "(I)I" } : MethodName) ∈ BIG := big_sel 51 _ rfl
theorem bs_52 : Cond.selects "SweetWrapsModel" ({ cls := "SweetWrapsModel", name := "takeSweet", desc := "(I)V" } : MethodName) ({ cls := "SweetWrapsModel", name := "takeSweet", desc := "(I)V" } : MethodName) ∈ BIG := big_sel 52 _ rfl
theorem bs_53 : Cond.selects "SweetWrapsModel" ({ cls := "SweetWrapsModel", name := "taken", desc := "(I)I" } : MethodName) ({ cls := "SweetWrapsModel", name := "taken", desc := "(I)I" } : MethodName) ∈ BIG := big_sel 53 _ rfl
theorem bs_54 : Cond.selects "SweetWrapsModel" ({ cls := "SweetWrapsModel", name := "inHoppers", desc := "(I)I" } : MethodName) ({ cls := "SweetWrapsModel", name := "inHoppers", desc := "(I)I" } : MethodName) ∈ BIG := big_sel 54 _ rfl
theorem bs_55 : Cond.selects "SweetWrapsModel" ({ cls := "SweetWrapsModel", name := "inTins", desc := "(II)I" } : MethodName) ({ cls := "SweetWrapsModel", name := "inTins", desc := "(II)I" } : MethodName) ∈ BIG := big_sel 55 _ rfl
theorem bs_56 : Cond.selects "SweetWrapsModel" ({ cls := "SweetWrapsModel", name := "inAll", desc := "(I)I" } : MethodName) ({ cls := "SweetWrapsModel", name := "inAll", desc := "(I)I" } : MethodName) ∈ BIG := big_sel 56 _ rfl
theorem bs_57 : Cond.selects "SweetWrapsModel" ({ cls := "SweetWrapsModel", name := "tinSet", desc := "(I)I" } : MethodName) ({ cls := "SweetWrapsModel", name := "tinSet", desc := "(I)I" } : MethodName) ∈ BIG := big_sel 57 _ rfl
theorem bs_58 : Cond.selects "SweetWrapsModel" ({ cls := "SweetWrapsModel", name := "lanes", desc := "(I)I" } : MethodName) ({ cls := "SweetWrapsModel", name := "lanes", desc := "(I)I" } : MethodName) ∈ BIG := big_sel 58 _ rfl
theorem bs_59 : Cond.selects "SweetWrapsModel" ({ cls := "SweetWrapsModel", name := "shippedSweets", desc := "()I" } : MethodName) ({ cls := "SweetWrapsModel", name := "shippedSweets", desc := "()I" } : MethodName) ∈ BIG := big_sel 59 _ rfl
theorem bs_60 : Cond.selects "SweetWrapsModel" ({ cls := "SweetWrapsModel", name := "failing", desc := "()I" } : MethodName) ({ cls := "SweetWrapsModel", name := "failing", desc := "()I" } : MethodName) ∈ BIG := big_sel 60 _ rfl
theorem bs_61 : Cond.selects "SweetWrapsModel" ({ cls := "SweetWrapsModel", name := "putBack", desc := "()V" } : MethodName) ({ cls := "SweetWrapsModel", name := "putBack", desc := "()V" } : MethodName) ∈ BIG := big_sel 61 _ rfl
theorem bs_62 : Cond.selects "SweetWrapsModel" ({ cls := "SweetWrapsModel", name := "go", desc := "(Z)I" } : MethodName) ({ cls := "SweetWrapsModel", name := "go", desc := "(Z)I" } : MethodName) ∈ BIG := big_sel 62 _ rfl
theorem bs_63 : Cond.selects "SweetWrapsModel" ({ cls := "SweetWrapsModel", name := "order", desc := "(Z)I" } : MethodName) ({ cls := "SweetWrapsModel", name := "order", desc := "(Z)I" } : MethodName) ∈ BIG := big_sel 63 _ rfl
theorem bs_64 : Cond.selects "SweetWrapsModel" ({ cls := "SweetWrapsModel", name := "isNext", desc := "(I)Z" } : MethodName) ({ cls := "SweetWrapsModel", name := "isNext", desc := "(I)Z" } : MethodName) ∈ BIG := big_sel 64 _ rfl
theorem bs_65 : Cond.selects "SweetWrapsModel" ({ cls := "SweetWrapsModel", name := "sign", desc := "(II)I" } : MethodName) ({ cls := "SweetWrapsModel", name := "sign", desc := "(II)I" } : MethodName) ∈ BIG := big_sel 65 _ rfl
theorem bs_66 : Cond.selects "SweetWrapsModel" ({ cls := "SweetWrapsModel", name := "number", desc := "()I" } : MethodName) ({ cls := "SweetWrapsModel", name := "number", desc := "()I" } : MethodName) ∈ BIG := big_sel 66 _ rfl
end
section
/-! THE WORLD: every cell of the system and of the reference has a place (m, k, i): k its kind, m its machine (0 now, 1 trial, 2 to 8 the history's, 9 and 10 the slots'; 11 the system's other cells, 12 the reference), i its number. A state gives each cell a row of ints. -/
abbrev Sg : Type := Nat → Nat → Nat → Nat → Int32
/-- the launch's numbers: classes and slots; addresses; array classes; static arrays; Strings and their byte arrays -/
abbrev Ev : Type := va_G × (Nat → Nat → Nat → Nat) × (Nat → ClassId) × (Nat → Nat) × (Nat → Nat) × (Nat → Nat)
abbrev eD (E : Ev) : va_G := E.1
abbrev ad (E : Ev) (m k i : Nat) : Nat := E.2.1 m k i
abbrev eC (E : Ev) (k : Nat) : ClassId := E.2.2.1 k
abbrev eT (E : Ev) (k : Nat) : Nat := E.2.2.2.1 k
abbrev eK (E : Ev) : Nat → Nat := E.2.2.2.2.1
abbrev eV (E : Ev) : Nat → Nat := E.2.2.2.2.2
/-- the places -/
def ids1 (m : Nat) : List (Nat × Nat × Nat) := [(m, 0, 0), (m, 1, 0), (m, 2, 0), (m, 3, 0), (m, 4, 0)] ++ (List.range 4).flatMap (fun i => [(m, 5, i), (m, 6, i), (m, 7, i)]) ++ (List.range 16).flatMap (fun i => [(m, 8, i), (m, 9, i)])
def ids : List (Nat × Nat × Nat) := (List.range 11).flatMap ids1 ++ (List.range 8).map (fun k => (11, 10 + k, 0)) ++ (List.range 8).map (fun k => (12, 18 + k, 0))
abbrev okc (m k i : Nat) : Prop := (m, k, i) ∈ ids
theorem okc_1 {m k i : Nat} (hm : m < 11) (h : (m, k, i) ∈ ids1 m) : okc m k i := List.mem_append_left _ (List.mem_append_left _ (List.mem_flatMap.mpr ⟨m, List.mem_range.mpr hm, h⟩))
theorem ok0 {m : Nat} (hm : m < 11) : okc m 0 0 := okc_1 hm (by simp [ids1])
theorem ok1 {m : Nat} (hm : m < 11) : okc m 1 0 := okc_1 hm (by simp [ids1])
theorem ok2 {m : Nat} (hm : m < 11) : okc m 2 0 := okc_1 hm (by simp [ids1])
theorem ok3 {m : Nat} (hm : m < 11) : okc m 3 0 := okc_1 hm (by simp [ids1])
theorem ok4 {m : Nat} (hm : m < 11) : okc m 4 0 := okc_1 hm (by simp [ids1])
theorem ok5 {m i : Nat} (hm : m < 11) (hi : i < 4) : okc m 5 i := okc_1 hm (by simp [ids1]; omega)
theorem ok6 {m i : Nat} (hm : m < 11) (hi : i < 4) : okc m 6 i := okc_1 hm (by simp [ids1]; omega)
theorem ok7 {m i : Nat} (hm : m < 11) (hi : i < 4) : okc m 7 i := okc_1 hm (by simp [ids1]; omega)
theorem ok8 {m i : Nat} (hm : m < 11) (hi : i < 16) : okc m 8 i := okc_1 hm (by simp [ids1]; omega)
theorem ok9 {m i : Nat} (hm : m < 11) (hi : i < 16) : okc m 9 i := okc_1 hm (by simp [ids1]; omega)
theorem ok10 {k : Nat} (h : k < 8) : okc 11 (10 + k) 0 := List.mem_append_left _ (List.mem_append_right _ (List.mem_map.mpr ⟨k, List.mem_range.mpr h, rfl⟩))
theorem ok18 {k : Nat} (h : k < 8) : okc 12 (18 + k) 0 := List.mem_append_right _ (List.mem_map.mpr ⟨k, List.mem_range.mpr h, rfl⟩)
/-- what the cell at a place holds, by its row -/
def ce (E : Ev) (k m i : Nat) (f : Nat → Int32) : va_E := match k with
  | 0 => .inr (2, [.ref (ad E m 1 0), .ref (ad E m 2 0), .ref (ad E m 3 0), .ref (ad E m 4 0), .int (f 4), .int (f 5), .int (f 6), .int (f 7)])
  | 1 => .inl (eC E 0, 4, .inl f)
  | 2 => .inl (eC E 3, 4, .inr (.inr (.inr (.inr (fun j => some (ad E m 5 j))))))
  | 3 => .inl (eC E 4, 16, .inr (.inr (.inr (.inr (fun j => some (ad E m 8 j))))))
  | 4 => .inl (eC E 0, 6, .inl f)
  | 5 => .inr (1, [.ref (ad E m 6 i), .ref (ad E m 7 i), .int (f 2), .int (f 3), .int (f 4), .int (f 5), .int (f 6), .int (f 7)])
  | 6 => .inl (eC E 0, 6, .inl f)
  | 7 => .inl (eC E 0, 6, .inl f)
  | 8 => .inr (4, [.ref (ad E m 9 i), .int (f 1), .int (f 2), .int (f 3)])
  | 9 => .inl (eC E 0, 6, .inl f)
  | 10 => .inr (5, [.ref (ad E 0 0 0), .ref (ad E 1 0 0), .ref (ad E 11 11 0), .ref (ad E 11 13 0), .ref (ad E 11 14 0), .ref (ad E 11 15 0)])
  | 11 => .inr (0, [.ref (ad E 11 12 0), .ref (ad E (f 1).toNatClampNeg 0 0), .int (f 2)])
  | 12 => .inl (eC E 5, 6, .inr (.inr (.inr (.inr (fun j => some (ad E (f j).toNatClampNeg 0 0))))))
  | 13 => .inl (eC E 5, 2, .inr (.inr (.inr (.inr (fun j => some (ad E (9 + j) 0 0))))))
  | 14 => .inl (eC E 1, 2, .inl f)
  | 15 => .inr (3, [.ref (ad E 11 16 0), .ref (ad E 11 17 0), .int (f 2), .int (f 3), .int (f 4), .int (f 5)])
  | 16 => .inl (eC E 2, 80, .inl f)
  | 17 => .inl (eC E 0, 3, .inl f)
  | 18 => .inr (6, [.ref (ad E 12 19 0), .ref (ad E 12 20 0), .ref (ad E 12 21 0), .int (f 3), .ref (ad E 12 22 0), .ref (ad E 12 23 0), .ref (ad E 12 24 0), .int (f 7), .ref (ad E 12 25 0), .int (f 9), .int (f 10)])
  | 19 => .inl (eC E 0, 194, .inl f)
  | 20 => .inl (eC E 0, 194, .inl f)
  | 21 => .inl (eC E 0, 1164, .inl f)
  | 22 => .inl (eC E 0, 388, .inl f)
  | 23 => .inl (eC E 1, 2, .inl f)
  | 24 => .inl (eC E 0, 80, .inl f)
  | _ => .inl (eC E 0, 4, .inl f)
def wl (E : Ev) (σ : Sg) : va_W := ids.map (fun q => (ad E q.1 q.2.1 q.2.2, ce E q.2.1 q.1 q.2.2 (σ q.1 q.2.1 q.2.2)))
def WD (E : Ev) (σ : Sg) (H : Heap) : Prop := va_P (eD E) vwCl (wl E σ) H
def eA (E : Ev) : Nat → Prop := fun q => ∃ m k i, okc m k i ∧ q = ad E m k i
def Inj (E : Ev) : Prop := ∀ m k i m' k' i', okc m k i → okc m' k' i' → ad E m k i = ad E m' k' i' → (m, k, i) = (m', k', i')
def ua (σ : Sg) (m k i : Nat) (f : Nat → Int32) : Sg := fun a b c => if a = m ∧ b = k ∧ c = i then f else σ a b c
def up (σ : Sg) (m k i j : Nat) (x : Int32) : Sg := ua σ m k i (upd (σ m k i) j x)
def idc (q : Nat × Nat × Nat) : Nat := q.1 * 1000 + q.2.1 * 20 + q.2.2
theorem ids_nd : va_nd (ids.map idc) = true := by decide +kernel
theorem ids_inj {a b : Nat} {z : Nat × Nat × Nat} (h1 : ids[a]? = some z) (h2 : ids[b]? = some z) : a = b := va_nd_inj _ ids_nd a b (idc z) (by rw [List.getElem?_map, h1]; rfl) (by rw [List.getElem?_map, h2]; rfl)
theorem wl_at (E : Ev) (σ : Sg) {m k i : Nat} (h : okc m k i) : ∃ q : Nat, ids[q]? = some (m, k, i) ∧ (wl E σ)[q]? = some (ad E m k i, ce E k m i (σ m k i)) := by
  obtain ⟨q, hq⟩ := List.getElem?_of_mem h
  exact ⟨q, hq, by simp [wl, hq]⟩
theorem wl_D (E : Ev) (σ : Sg) (h : Inj E) : va_D (eA E) (wl E σ) := by
  have key : ∀ (n : Nat) (q : Nat × va_E), (wl E σ)[n]? = some q → ∃ m k i, ids[n]? = some (m, k, i) ∧ q.1 = ad E m k i := by
    intro n q hq
    unfold wl at hq
    rw [List.getElem?_map] at hq
    cases hn : ids[n]? with
    | none => rw [hn] at hq; cases hq
    | some z =>
      rw [hn] at hq
      obtain ⟨m, k, i⟩ := z
      exact ⟨m, k, i, rfl, by cases hq; rfl⟩
  refine ⟨fun a b p q ha hb hpq => ?_, fun n q hq => ?_⟩
  · obtain ⟨m, k, i, h1, h2⟩ := key a p ha
    obtain ⟨m', k', i', h3, h4⟩ := key b q hb
    have e := h m k i m' k' i' (List.mem_of_getElem? h1) (List.mem_of_getElem? h3) (by rw [← h2, ← h4]; exact hpq)
    rw [← e] at h3
    exact ids_inj h1 h3
  · obtain ⟨m, k, i, h1, h2⟩ := key n q hq
    exact ⟨m, k, i, List.mem_of_getElem? h1, h2⟩
theorem wl_set (E : Ev) (σ : Sg) {m k i q : Nat} (hq : ids[q]? = some (m, k, i)) (f : Nat → Int32) : (wl E σ).set q (ad E m k i, ce E k m i f) = wl E (ua σ m k i f) := by
  obtain ⟨l1, g1⟩ := List.getElem?_eq_some_iff.mp hq
  apply List.ext_getElem?
  intro n
  by_cases hn : n = q
  · subst hn
    rw [List.getElem?_set_self (by simpa [wl] using l1)]
    simp [wl, hq, ua]
  · rw [List.getElem?_set_ne (Ne.symm hn)]
    unfold wl
    rw [List.getElem?_map, List.getElem?_map]
    cases hz : ids[n]? with
    | none => rfl
    | some z =>
      obtain ⟨m', k', i'⟩ := z
      have hne : ¬ (m' = m ∧ k' = k ∧ i' = i) := by
        rintro ⟨rfl, rfl, rfl⟩
        exact hn (ids_inj hz hq)
      simp [ua, hne]
theorem WD.cell {E : Ev} {σ : Sg} {H : Heap} (h : WD E σ H) {m k i : Nat} (ok : okc m k i) {e : va_E} (he : ce E k m i (σ m k i) = e) : va_P (eD E) vwCl [(ad E m k i, e)] H := by
  obtain ⟨q, -, h2⟩ := wl_at E σ ok
  subst he
  intro n z hz
  cases n with
  | zero => cases hz; exact h q _ h2
  | succ n => cases hz
end
section
/-! THE JUDGEMENT: G X s lv st pc: from a heap that holds the world s, with locals lv and stack st at pc, the method X ends as it is due. What else a method rests on: EV. -/
def lst (j : Nat) : Int32 := ([1, 4, 1, 1] : List Int32).getD j 0
def mst (j : Nat) : Int32 := ([9, 60, 99, 2] : List Int32).getD j 0
def scI : List Nat := [79, 81, 83, 85, 87, 89, 91]
def scT : List String := ["hd.d*n", "fd+n", "t", "sn", "add", "rn", ""]
def scL : List Nat := [6, 4, 1, 2, 3, 2, 0]
def scB : List (List Int32) := [[104, 100, 46, 100, 42, 110], [102, 100, 43, 110], [116], [115, 110], [97, 100, 100], [114, 110], []]
def ety (E : Ev) : List (ClassId × FieldType) := [(eC E 0, .int), (eC E 1, .boolean), (eC E 2, .char), (eC E 3, .object RX1), (eC E 4, .object RX4), (eC E 5, .object RX2)]
def EV (E : Ev) (U : State) (H : Heap) : Prop :=
  va_K (eD E) vwCl (ety E) U ∧ Inj E ∧ (∀ a i y h, Cond.methodLinkNest a i y h ∈ tables_1 → va_Nw (Cond.methodLinkNest a i y h) U) ∧ (∀ a i b n d h, Cond.fieldLinkNest a i b n d h ∈ tables_1 → va_Nw (Cond.fieldLinkNest a i b n d h) U) ∧
  va_Z "SweetWraps" "LEAST_OF_SETTING" "[I" (.ref (eT E 0)) (eA E) U H ∧ va_T .int (eT E 0) 4 (fun j => .int (lst j)) (eA E) U H ∧ va_Z "SweetWraps" "MOST_OF_SETTING" "[I" (.ref (eT E 1)) (eA E) U H ∧ va_T .int (eT E 1) 4 (fun j => .int (mst j)) (eA E) U H ∧
  vk_S 7 scL scB (eK E) (eV E) (eA E) U H ∧ (∀ i, i < 7 → vk_R "SweetWraps$Pad" (scI.getD i 0) (scT.getD i "") (eK E i) U) ∧ va_Z "java/lang/String" "COMPACT_STRINGS" "Z" (.int 1) (eA E) U H ∧ va_Zq "jdk/internal/util/Preconditions" "SIOOBE_FORMATTER" "Ljava/util/function/BiFunction;" (eA E) U H
theorem EV.next {E : Ev} {s U : State} {H : Heap} {locs : List Loc} (h : EV E s s.heap) (hW : s.WarmedH U.vm) (hS : va_S (eA E) s.heap H locs) (hH : U.heap = H) : EV E U U.heap := by
  obtain ⟨h1, h2, h3, h4, h5, h6, h7, h8, h9, h10, h11, h12⟩ := h
  rw [hH]
  have a := hW.alike
  have k := hS.2.1
  exact ⟨va_K.moved a h1, h2, fun _ _ _ _ z => va_Nw.warmM hW (h3 _ _ _ _ z), fun _ _ _ _ _ _ z => va_Nw.warmF hW (h4 _ _ _ _ _ _ z), (va_Z.moved a h5).kept k, (va_T.moved a h6).kept k, (va_Z.moved a h7).kept k, (va_T.moved a h8).kept k, (vk_S.moved a h9).kept k, fun i hi => vk_R.warm hW (h10 i hi), (va_Z.moved a h11).kept k, (va_Zq.moved a h12).kept k⟩
theorem EV.same {E : Ev} {u U : State} (hv : U.vm = u.vm) (hh : U.heap = u.heap) (h : EV E u u.heap) : EV E U U.heap := by
  obtain ⟨h1, h2, h3, h4, h5, h6, h7, h8, h9, h10, h11, h12⟩ := h
  rw [hh]
  have a : u.vm.Alike U.vm := by rw [hv]; exact Vm.Alike.refl _
  exact ⟨va_K.moved a h1, h2, fun _ _ _ _ z => va_Nw.same rfl hv.symm (h3 _ _ _ _ z), fun _ _ _ _ _ _ z => va_Nw.same rfl hv.symm (h4 _ _ _ _ _ _ z), va_Z.moved a h5, va_T.moved a h6, va_Z.moved a h7, va_T.moved a h8, vk_S.moved a h9, fun i hi => vk_R.same hv (h10 i hi), va_Z.moved a h11, va_Zq.moved a h12⟩
abbrev Tx : Type := Program × Launch × Env × Room × State × MethodId × Array Value × List Frame × Method × Code × (State → Prop) × Ev × Nat
abbrev tP (X : Tx) : Program := X.1
abbrev tL (X : Tx) : Launch := X.2.1
abbrev te (X : Tx) : Env := X.2.2.1
abbrev tR (X : Tx) : Room := X.2.2.2.1
abbrev tS (X : Tx) : State := X.2.2.2.2.1
abbrev tM (X : Tx) : MethodId := X.2.2.2.2.2.1
abbrev tA (X : Tx) : Array Value := X.2.2.2.2.2.2.1
abbrev tB (X : Tx) : List Frame := X.2.2.2.2.2.2.2.1
abbrev tO (X : Tx) : Method := X.2.2.2.2.2.2.2.2.1
abbrev tC (X : Tx) : Code := X.2.2.2.2.2.2.2.2.2.1
abbrev tZ (X : Tx) : State → Prop := X.2.2.2.2.2.2.2.2.2.2.1
abbrev tE (X : Tx) : Ev := X.2.2.2.2.2.2.2.2.2.2.2.1
abbrev tN (X : Tx) : Nat := X.2.2.2.2.2.2.2.2.2.2.2.2
/-- with the heap named -/
abbrev GH (X : Tx) (H : Heap) (locs : List Loc) (ls : Array Slot) (st : List Value) (pc : Nat) : Prop := W (tP X) (tL X) (te X) (tR X) (tS X) (tM X) (tA X) (tB X) (tO X) (tC X) H locs 0 0 (tZ X) (F0 (tM X) pc ls st)
def G (X : Tx) (σ : Sg) (lv : List (Nat × Value)) (st : List Value) (pc : Nat) : Prop :=
  ∀ (H : Heap) (locs : List Loc) (ls : Array Slot), WD (tE X) σ H → va_S (eA (tE X)) (tS X).heap H locs → lv_has ls (tN X) lv → GH X H locs ls st pc
def Cx (X : Tx) (cc : ByteArray) (own : String) (ret : Option FieldType) (fr lo nL : Nat) (Qc : Array Value → State → Outcome → State → Prop) : Prop :=
  (tP X).tables.exec = Jvm.exec ∧ (tC X).code = cc ∧ (tO X).sig.returnType = ret ∧ (tC X).maxLocals = tN X ∧ (tS X).vm.findClass own = some (tM X).cls ∧ (tO X).locks = false ∧ (∀ w ∈ BIG, w.before (tA X) (tS X) = true) ∧ EV (tE X) (tS X) (tS X).heap ∧ tR X = { frames := fr, cells := 0, slots := 0, locals := lo } ∧ tN X = nL ∧ tZ X = MQ (tB X) Qc (tA X) (tS X) 0 0 (eA (tE X))
/-- a method's contract: from the world s, with the arguments av -/
def CT (l : Launch) (E : Ev) (y : MethodName) (cc : ByteArray) (nL : Nat) (ret : Option FieldType) (fr lo : Nat) (av : List Value) (σ : Sg) (Qc : Array Value → State → Outcome → State → Prop) : Prop :=
  Met l y (Cond.code y cc nL ret :: BIG) { frames := fr, cells := 0, slots := 0, locals := lo } (va_Pc av (fun U => WD E σ U.heap ∧ EV E U U.heap)) Qc 0 0 (eA E)
/-- how it ends: an int and a world; a world -/
abbrev QI (E : Ev) (Q : Int32 → Sg → Prop) : Array Value → State → Outcome → State → Prop := va_Qi Q (fun u t => WD E u t.heap) (eA E)
abbrev QV (E : Ev) (Q : Sg → Prop) : Array Value → State → Outcome → State → Prop := va_Qv Q (fun u t => WD E u t.heap) (eA E)
theorem CT_of {l : Launch} {E : Ev} {y : MethodName} {cc : ByteArray} {nL : Nat} {ret : Option FieldType} {fr lo : Nat} {av : List Value} {σ : Sg} {Qc : Array Value → State → Outcome → State → Prop} (hy : plainName y.cls = true) (hl : (lg_sl av).length ≤ nL)
    (body : ∀ X : Tx, tL X = l → tE X = E → Cx X cc y.cls ret fr lo nL Qc → G X σ (lv_args 0 av) [] 0) : CT l E y cc nL ret fr lo av σ Qc := by
  refine Met.ofW (cc := cc) (maxL := nL) (ret := ret) hy rfl ?_
  intro p e s m args below meth c s₁ B hml hv
  obtain ⟨rfl, hW, hE⟩ := hv
  have hts := atoms_spec (ws := Cond.code y cc nL ret :: BIG) B.pre
  have k := body (p, l, e, (headSpec (Cond.code y cc nL ret :: BIG) { frames := fr, cells := 0, slots := 0, locals := lo }).room, s, m, av.toArray, below, meth, c, MQ below Qc av.toArray s 0 0 (eA E), E, nL) rfl rfl
    ⟨B.exec, B.bytes, B.returns, hml, findClass_of_methodNamed B.named, B.notSynchronized, fun w h => hts w (List.mem_cons_of_mem _ h), hE, rfl, rfl, rfl⟩
  rw [lg_entry_eq]
  exact k s.heap [] _ hW va_S.rf (lv_entry av hl)
end
section
section GR
variable {X : Tx} {cc : ByteArray} {own : String} {ret : Option FieldType} {fr lo nL : Nat} {Qc : Array Value → State → Outcome → State → Prop} {σ : Sg} {lv : List (Nat × Value)} {st : List Value} {pc : Nat}
theorem gx_iconst (C : Cx X cc own ret fr lo nL Qc) {n : Int} {v : Int32} (hd : decode cc pc = .ok (.iconst n, 1)) (hv : Int32.ofInt n = v) (kk : G X σ lv (.int v :: st) (pc + 1)) : G X σ lv st pc := fun H locs ls hW hS hl => lv_iconst C.1 C.2.1 hd hv (kk H locs ls hW hS hl)
theorem gx_bipush (C : Cx X cc own ret fr lo nL Qc) {n : Int} {v : Int32} (hd : decode cc pc = .ok (.bipush n, 2)) (hv : (Int8.ofInt n).toInt32 = v) (kk : G X σ lv (.int v :: st) (pc + 2)) : G X σ lv st pc := fun H locs ls hW hS hl => lv_bipush C.1 C.2.1 hd hv (kk H locs ls hW hS hl)
theorem gx_sipush (C : Cx X cc own ret fr lo nL Qc) {n : Int} {v : Int32} (hd : decode cc pc = .ok (.sipush n, 3)) (hv : (Int16.ofInt n).toInt32 = v) (kk : G X σ lv (.int v :: st) (pc + 3)) : G X σ lv st pc := fun H locs ls hW hS hl => lv_sipush C.1 C.2.1 hd hv (kk H locs ls hW hS hl)
theorem gx_lconst (C : Cx X cc own ret fr lo nL Qc) {n : Fin 2} {v : Int64} (hd : decode cc pc = .ok (.lconst n, 1)) (hv : Int64.ofNat (n : Nat) = v) (kk : G X σ lv (.long v :: st) (pc + 1)) : G X σ lv st pc := fun H locs ls hW hS hl => lv_lconst C.1 C.2.1 hd hv (kk H locs ls hW hS hl)
theorem gx_ldc2 (C : Cx X cc own ret fr lo nL Qc) {index : Nat} {v : Int64} (hd : decode cc pc = .ok (.ldc2_w index, 3)) (hw : Cond.constantLong own index v ∈ BIG) (kk : G X σ lv (.long v :: st) (pc + 3)) : G X σ lv st pc := fun H locs ls hW hS hl => lv_ldc2 C.1 C.2.1 C.2.2.2.2.1 (C.2.2.2.2.2.2.1 _ hw) hd (kk H locs ls hW hS hl)
theorem gx_iload_n (C : Cx X cc own ret fr lo nL Qc) {k : Fin 4} {x : Int32} (hd : decode cc pc = .ok (.iload_n k, 1)) (j : Nat) (hj : lv[j]? = some ((k : Nat), .int x)) (kk : G X σ lv (.int x :: st) (pc + 1)) : G X σ lv st pc := fun H locs ls hW hS hl => lv_iload_n C.1 C.2.1 hd rfl (lv_at hl j hj) (kk H locs ls hW hS hl)
theorem gx_iload (C : Cx X cc own ret fr lo nL Qc) {i : Nat} {x : Int32} (hd : decode cc pc = .ok (.iload i, 2)) (j : Nat) (hj : lv[j]? = some (i, .int x)) (kk : G X σ lv (.int x :: st) (pc + 2)) : G X σ lv st pc := fun H locs ls hW hS hl => lv_iload C.1 C.2.1 hd (lv_at hl j hj) (kk H locs ls hW hS hl)
theorem gx_lload_n (C : Cx X cc own ret fr lo nL Qc) {k : Fin 4} {x : Int64} (hd : decode cc pc = .ok (.lload_n k, 1)) (j : Nat) (hj : lv[j]? = some ((k : Nat), .long x)) (kk : G X σ lv (.long x :: st) (pc + 1)) : G X σ lv st pc := fun H locs ls hW hS hl => lv_lload_n C.1 C.2.1 hd rfl (lv_at hl j hj) (kk H locs ls hW hS hl)
theorem gx_lload (C : Cx X cc own ret fr lo nL Qc) {i : Nat} {x : Int64} (hd : decode cc pc = .ok (.lload i, 2)) (j : Nat) (hj : lv[j]? = some (i, .long x)) (kk : G X σ lv (.long x :: st) (pc + 2)) : G X σ lv st pc := fun H locs ls hW hS hl => lv_lload C.1 C.2.1 hd (lv_at hl j hj) (kk H locs ls hW hS hl)
theorem gx_aload_n (C : Cx X cc own ret fr lo nL Qc) {k : Fin 4} {x : Nat} (hd : decode cc pc = .ok (.aload_n k, 1)) (j : Nat) (hj : lv[j]? = some ((k : Nat), .ref x)) (kk : G X σ lv (.ref x :: st) (pc + 1)) : G X σ lv st pc := fun H locs ls hW hS hl => lv_aload_n C.1 C.2.1 hd rfl (lv_at hl j hj) (kk H locs ls hW hS hl)
theorem gx_aload (C : Cx X cc own ret fr lo nL Qc) {i : Nat} {x : Nat} (hd : decode cc pc = .ok (.aload i, 2)) (j : Nat) (hj : lv[j]? = some (i, .ref x)) (kk : G X σ lv (.ref x :: st) (pc + 2)) : G X σ lv st pc := fun H locs ls hW hS hl => lv_aload C.1 C.2.1 hd (lv_at hl j hj) (kk H locs ls hW hS hl)
theorem gx_istore_n (C : Cx X cc own ret fr lo nL Qc) {k : Fin 4} {x : Int32} {lv' : List (Nat × Value)} (hd : decode cc pc = .ok (.istore_n k, 1)) (hn : (k : Nat) < nL) (hl' : ((k : Nat), Value.int x) :: lv.filter (fun q => !(q.1 == (k : Nat)) && !(q.1 + 1 == (k : Nat) && q.2.category == 2)) = lv') (kk : G X σ lv' st (pc + 1)) : G X σ lv (.int x :: st) pc := fun H locs ls hW hS hl => lv_istore_n C.1 C.2.1 hd rfl hl (by rw [C.2.2.2.2.2.2.2.2.2.1]; exact hn) hl' (fun ls hl => kk H locs ls hW hS hl)
theorem gx_istore (C : Cx X cc own ret fr lo nL Qc) {i : Nat} {x : Int32} {lv' : List (Nat × Value)} (hd : decode cc pc = .ok (.istore i, 2)) (hn : i < nL) (hl' : (i, Value.int x) :: lv.filter (fun q => !(q.1 == i) && !(q.1 + 1 == i && q.2.category == 2)) = lv') (kk : G X σ lv' st (pc + 2)) : G X σ lv (.int x :: st) pc := fun H locs ls hW hS hl => lv_istore C.1 C.2.1 hd hl (by rw [C.2.2.2.2.2.2.2.2.2.1]; exact hn) hl' (fun ls hl => kk H locs ls hW hS hl)
theorem gx_astore_n (C : Cx X cc own ret fr lo nL Qc) {k : Fin 4} {x : Nat} {lv' : List (Nat × Value)} (hd : decode cc pc = .ok (.astore_n k, 1)) (hn : (k : Nat) < nL) (hl' : ((k : Nat), Value.ref x) :: lv.filter (fun q => !(q.1 == (k : Nat)) && !(q.1 + 1 == (k : Nat) && q.2.category == 2)) = lv') (kk : G X σ lv' st (pc + 1)) : G X σ lv (.ref x :: st) pc := fun H locs ls hW hS hl => lv_astore_n C.1 C.2.1 hd rfl hl (by rw [C.2.2.2.2.2.2.2.2.2.1]; exact hn) hl' (fun ls hl => kk H locs ls hW hS hl)
theorem gx_astore (C : Cx X cc own ret fr lo nL Qc) {i : Nat} {x : Nat} {lv' : List (Nat × Value)} (hd : decode cc pc = .ok (.astore i, 2)) (hn : i < nL) (hl' : (i, Value.ref x) :: lv.filter (fun q => !(q.1 == i) && !(q.1 + 1 == i && q.2.category == 2)) = lv') (kk : G X σ lv' st (pc + 2)) : G X σ lv (.ref x :: st) pc := fun H locs ls hW hS hl => lv_astore C.1 C.2.1 hd hl (by rw [C.2.2.2.2.2.2.2.2.2.1]; exact hn) hl' (fun ls hl => kk H locs ls hW hS hl)
theorem gx_iinc (C : Cx X cc own ret fr lo nL Qc) {i : Nat} {n : Int} {x v : Int32} {lv' : List (Nat × Value)} (hd : decode cc pc = .ok (.iinc i n, 3)) (j : Nat) (hj : lv[j]? = some (i, .int x)) (hv : x + Int32.ofInt n = v) (hn : i < nL) (hl' : (i, Value.int v) :: lv.filter (fun q => !(q.1 == i) && !(q.1 + 1 == i && q.2.category == 2)) = lv') (kk : G X σ lv' st (pc + 3)) : G X σ lv st pc := fun H locs ls hW hS hl => lv_iinc C.1 C.2.1 hd hl hj hv (by rw [C.2.2.2.2.2.2.2.2.2.1]; exact hn) hl' (fun ls hl => kk H locs ls hW hS hl)
theorem gx_lstore_n (C : Cx X cc own ret fr lo nL Qc) {k : Fin 4} {x : Int64} {lv' : List (Nat × Value)} (hd : decode cc pc = .ok (.lstore_n k, 1)) (hn : (k : Nat) + 1 < nL) (hl' : ((k : Nat), Value.long x) :: lv.filter (fun q => !(q.1 == (k : Nat)) && (!(q.1 == (k : Nat) + 1) && !(q.1 + 1 == (k : Nat) && q.2.category == 2))) = lv') (kk : G X σ lv' st (pc + 1)) : G X σ lv (.long x :: st) pc := fun H locs ls hW hS hl => lv_lstore_n C.1 C.2.1 hd rfl hl (by rw [C.2.2.2.2.2.2.2.2.2.1]; exact hn) hl' (fun ls hl => kk H locs ls hW hS hl)
theorem gx_lstore (C : Cx X cc own ret fr lo nL Qc) {i : Nat} {x : Int64} {lv' : List (Nat × Value)} (hd : decode cc pc = .ok (.lstore i, 2)) (hn : i + 1 < nL) (hl' : (i, Value.long x) :: lv.filter (fun q => !(q.1 == i) && (!(q.1 == i + 1) && !(q.1 + 1 == i && q.2.category == 2))) = lv') (kk : G X σ lv' st (pc + 2)) : G X σ lv (.long x :: st) pc := fun H locs ls hW hS hl => lv_lstore C.1 C.2.1 hd hl (by rw [C.2.2.2.2.2.2.2.2.2.1]; exact hn) hl' (fun ls hl => kk H locs ls hW hS hl)
theorem gx_iadd (C : Cx X cc own ret fr lo nL Qc) {x y : Int32} (hd : decode cc pc = .ok (.iadd, 1)) (kk : G X σ lv (.int (x + y) :: st) (pc + 1)) : G X σ lv (.int y :: .int x :: st) pc := fun H locs ls hW hS hl => lv_iadd C.1 C.2.1 hd (kk H locs ls hW hS hl)
theorem gx_isub (C : Cx X cc own ret fr lo nL Qc) {x y : Int32} (hd : decode cc pc = .ok (.isub, 1)) (kk : G X σ lv (.int (x - y) :: st) (pc + 1)) : G X σ lv (.int y :: .int x :: st) pc := fun H locs ls hW hS hl => lv_isub C.1 C.2.1 hd (kk H locs ls hW hS hl)
theorem gx_imul (C : Cx X cc own ret fr lo nL Qc) {x y : Int32} (hd : decode cc pc = .ok (.imul, 1)) (kk : G X σ lv (.int (x * y) :: st) (pc + 1)) : G X σ lv (.int y :: .int x :: st) pc := fun H locs ls hW hS hl => lv_imul C.1 C.2.1 hd (kk H locs ls hW hS hl)
theorem gx_iand (C : Cx X cc own ret fr lo nL Qc) {x y : Int32} (hd : decode cc pc = .ok (.iand, 1)) (kk : G X σ lv (.int (x &&& y) :: st) (pc + 1)) : G X σ lv (.int y :: .int x :: st) pc := fun H locs ls hW hS hl => lv_iand C.1 C.2.1 hd (kk H locs ls hW hS hl)
theorem gx_ior (C : Cx X cc own ret fr lo nL Qc) {x y : Int32} (hd : decode cc pc = .ok (.ior, 1)) (kk : G X σ lv (.int (x ||| y) :: st) (pc + 1)) : G X σ lv (.int y :: .int x :: st) pc := fun H locs ls hW hS hl => lv_ior C.1 C.2.1 hd (kk H locs ls hW hS hl)
theorem gx_ixor (C : Cx X cc own ret fr lo nL Qc) {x y : Int32} (hd : decode cc pc = .ok (.ixor, 1)) (kk : G X σ lv (.int (x ^^^ y) :: st) (pc + 1)) : G X σ lv (.int y :: .int x :: st) pc := fun H locs ls hW hS hl => lv_ixor C.1 C.2.1 hd (kk H locs ls hW hS hl)
theorem gx_ishl (C : Cx X cc own ret fr lo nL Qc) {x y : Int32} (hd : decode cc pc = .ok (.ishl, 1)) (kk : G X σ lv (.int (x <<< (y &&& 31)) :: st) (pc + 1)) : G X σ lv (.int y :: .int x :: st) pc := fun H locs ls hW hS hl => lv_ishl C.1 C.2.1 hd (kk H locs ls hW hS hl)
theorem gx_ishr (C : Cx X cc own ret fr lo nL Qc) {x y : Int32} (hd : decode cc pc = .ok (.ishr, 1)) (kk : G X σ lv (.int (x >>> (y &&& 31)) :: st) (pc + 1)) : G X σ lv (.int y :: .int x :: st) pc := fun H locs ls hW hS hl => lv_ishr C.1 C.2.1 hd (kk H locs ls hW hS hl)
theorem gx_idiv (C : Cx X cc own ret fr lo nL Qc) {x y : Int32} (hd : decode cc pc = .ok (.idiv, 1)) (hne : ¬ y = 0) (kk : G X σ lv (.int (x / y) :: st) (pc + 1)) : G X σ lv (.int y :: .int x :: st) pc := fun H locs ls hW hS hl => lv_idiv C.1 C.2.1 hd hne (kk H locs ls hW hS hl)
theorem gx_irem (C : Cx X cc own ret fr lo nL Qc) {x y : Int32} (hd : decode cc pc = .ok (.irem, 1)) (hne : ¬ y = 0) (kk : G X σ lv (.int (x - x / y * y) :: st) (pc + 1)) : G X σ lv (.int y :: .int x :: st) pc := fun H locs ls hW hS hl => lv_irem C.1 C.2.1 hd hne (kk H locs ls hW hS hl)
theorem gx_land (C : Cx X cc own ret fr lo nL Qc) {x y : Int64} (hd : decode cc pc = .ok (.land, 1)) (kk : G X σ lv (.long (x &&& y) :: st) (pc + 1)) : G X σ lv (.long y :: .long x :: st) pc := fun H locs ls hW hS hl => lv_land C.1 C.2.1 hd (kk H locs ls hW hS hl)
theorem gx_lor (C : Cx X cc own ret fr lo nL Qc) {x y : Int64} (hd : decode cc pc = .ok (.lor, 1)) (kk : G X σ lv (.long (x ||| y) :: st) (pc + 1)) : G X σ lv (.long y :: .long x :: st) pc := fun H locs ls hW hS hl => lv_lor C.1 C.2.1 hd (kk H locs ls hW hS hl)
theorem gx_lushr (C : Cx X cc own ret fr lo nL Qc) {x : Int64} {y : Int32} (hd : decode cc pc = .ok (.lushr, 1)) (kk : G X σ lv (.long ((x.toUInt64 >>> (y.toInt64.toUInt64 &&& Int64.toUInt64 63)).toInt64) :: st) (pc + 1)) : G X σ lv (.int y :: .long x :: st) pc := fun H locs ls hW hS hl => lv_lushr C.1 C.2.1 hd rfl (kk H locs ls hW hS hl)
theorem gx_lshl (C : Cx X cc own ret fr lo nL Qc) {x : Int64} {y : Int32} (hd : decode cc pc = .ok (.lshl, 1)) (kk : G X σ lv (.long (x <<< (y.toInt64 &&& 63)) :: st) (pc + 1)) : G X σ lv (.int y :: .long x :: st) pc := fun H locs ls hW hS hl => lv_lshl C.1 C.2.1 hd rfl (kk H locs ls hW hS hl)
theorem gx_lcmp (C : Cx X cc own ret fr lo nL Qc) {x y : Int64} (hd : decode cc pc = .ok (.lcmp, 1)) (kk : G X σ lv (.int (lg_cmp x y) :: st) (pc + 1)) : G X σ lv (.long y :: .long x :: st) pc := fun H locs ls hW hS hl => W.lcmp C.1 C.2.1 hd (kk H locs ls hW hS hl)
theorem gx_i2l (C : Cx X cc own ret fr lo nL Qc) {x : Int32} (hd : decode cc pc = .ok (.i2l, 1)) (kk : G X σ lv (.long (x.toInt64) :: st) (pc + 1)) : G X σ lv (.int x :: st) pc := fun H locs ls hW hS hl => lv_i2l C.1 C.2.1 hd rfl (kk H locs ls hW hS hl)
theorem gx_l2i (C : Cx X cc own ret fr lo nL Qc) {x : Int64} (hd : decode cc pc = .ok (.l2i, 1)) (kk : G X σ lv (.int (x.toInt32) :: st) (pc + 1)) : G X σ lv (.long x :: st) pc := fun H locs ls hW hS hl => lv_l2i C.1 C.2.1 hd rfl (kk H locs ls hW hS hl)
theorem gx_i2c (C : Cx X cc own ret fr lo nL Qc) {x : Int32} (hd : decode cc pc = .ok (.i2c, 1)) (kk : G X σ lv (.int ((x.toUInt32 % 65536).toInt32) :: st) (pc + 1)) : G X σ lv (.int x :: st) pc := fun H locs ls hW hS hl => lv_i2c C.1 C.2.1 hd rfl (kk H locs ls hW hS hl)
theorem gx_dup (C : Cx X cc own ret fr lo nL Qc) {va : Value} (hd : decode cc pc = .ok (.dup, 1)) (hva : va.category = 1) (kk : G X σ lv (va :: va :: st) (pc + 1)) : G X σ lv (va :: st) pc := fun H locs ls hW hS hl => lv_dup C.1 C.2.1 hd hva (kk H locs ls hW hS hl)
theorem gx_pop (C : Cx X cc own ret fr lo nL Qc) {va : Value} (hd : decode cc pc = .ok (.pop, 1)) (hva : va.category = 1) (kk : G X σ lv st (pc + 1)) : G X σ lv (va :: st) pc := fun H locs ls hW hS hl => lv_pop C.1 C.2.1 hd hva (kk H locs ls hW hS hl)
theorem gx_dup_x1 (C : Cx X cc own ret fr lo nL Qc) {va vb : Value} (hd : decode cc pc = .ok (.dup_x1, 1)) (hva : va.category = 1) (hvb : vb.category = 1) (kk : G X σ lv (va :: vb :: va :: st) (pc + 1)) : G X σ lv (va :: vb :: st) pc := fun H locs ls hW hS hl => lv_dup_x1 C.1 C.2.1 hd hva hvb (kk H locs ls hW hS hl)
theorem gx_dup2 (C : Cx X cc own ret fr lo nL Qc) {va vb : Value} (hd : decode cc pc = .ok (.dup2, 1)) (hva : va.category = 1) (hvb : vb.category = 1) (kk : G X σ lv (va :: vb :: va :: vb :: st) (pc + 1)) : G X σ lv (va :: vb :: st) pc := fun H locs ls hW hS hl => lv_dup2_11 C.1 C.2.1 hd hva hvb (kk H locs ls hW hS hl)
theorem gx_if_eq (C : Cx X cc own ret fr lo nL Qc) {x : Int32} {off : Int} {tgt : Nat} (hd : decode cc pc = .ok (.ifCond .eq off, 3)) (ht : (pc : Int) + off = (tgt : Int)) (kt : x = 0 → G X σ lv st tgt) (kf : ¬ x = 0 → G X σ lv st (pc + 3)) : G X σ lv (.int x :: st) pc := fun H locs ls hW hS hl => lv_if_eq C.1 C.2.1 hd ht (fun h => kt h H locs ls hW hS hl) (fun h => kf h H locs ls hW hS hl)
theorem gx_if_ne (C : Cx X cc own ret fr lo nL Qc) {x : Int32} {off : Int} {tgt : Nat} (hd : decode cc pc = .ok (.ifCond .ne off, 3)) (ht : (pc : Int) + off = (tgt : Int)) (kt : ¬ x = 0 → G X σ lv st tgt) (kf : x = 0 → G X σ lv st (pc + 3)) : G X σ lv (.int x :: st) pc := fun H locs ls hW hS hl => lv_if_ne C.1 C.2.1 hd ht (fun h => kt h H locs ls hW hS hl) (fun h => kf h H locs ls hW hS hl)
theorem gx_if_lt (C : Cx X cc own ret fr lo nL Qc) {x : Int32} {off : Int} {tgt : Nat} (hd : decode cc pc = .ok (.ifCond .lt off, 3)) (ht : (pc : Int) + off = (tgt : Int)) (kt : x < 0 → G X σ lv st tgt) (kf : ¬ x < 0 → G X σ lv st (pc + 3)) : G X σ lv (.int x :: st) pc := fun H locs ls hW hS hl => lv_if_lt C.1 C.2.1 hd ht (fun h => kt h H locs ls hW hS hl) (fun h => kf h H locs ls hW hS hl)
theorem gx_if_ge (C : Cx X cc own ret fr lo nL Qc) {x : Int32} {off : Int} {tgt : Nat} (hd : decode cc pc = .ok (.ifCond .ge off, 3)) (ht : (pc : Int) + off = (tgt : Int)) (kt : 0 ≤ x → G X σ lv st tgt) (kf : ¬ 0 ≤ x → G X σ lv st (pc + 3)) : G X σ lv (.int x :: st) pc := fun H locs ls hW hS hl => lv_if_ge C.1 C.2.1 hd ht (fun h => kt h H locs ls hW hS hl) (fun h => kf h H locs ls hW hS hl)
theorem gx_if_gt (C : Cx X cc own ret fr lo nL Qc) {x : Int32} {off : Int} {tgt : Nat} (hd : decode cc pc = .ok (.ifCond .gt off, 3)) (ht : (pc : Int) + off = (tgt : Int)) (kt : 0 < x → G X σ lv st tgt) (kf : ¬ 0 < x → G X σ lv st (pc + 3)) : G X σ lv (.int x :: st) pc := fun H locs ls hW hS hl => lv_if_gt C.1 C.2.1 hd ht (fun h => kt h H locs ls hW hS hl) (fun h => kf h H locs ls hW hS hl)
theorem gx_if_le (C : Cx X cc own ret fr lo nL Qc) {x : Int32} {off : Int} {tgt : Nat} (hd : decode cc pc = .ok (.ifCond .le off, 3)) (ht : (pc : Int) + off = (tgt : Int)) (kt : x ≤ 0 → G X σ lv st tgt) (kf : ¬ x ≤ 0 → G X σ lv st (pc + 3)) : G X σ lv (.int x :: st) pc := fun H locs ls hW hS hl => lv_if_le C.1 C.2.1 hd ht (fun h => kt h H locs ls hW hS hl) (fun h => kf h H locs ls hW hS hl)
theorem gx_icmp_eq (C : Cx X cc own ret fr lo nL Qc) {x y : Int32} {off : Int} {tgt : Nat} (hd : decode cc pc = .ok (.if_icmp .eq off, 3)) (ht : (pc : Int) + off = (tgt : Int)) (kt : x = y → G X σ lv st tgt) (kf : ¬ x = y → G X σ lv st (pc + 3)) : G X σ lv (.int y :: .int x :: st) pc := fun H locs ls hW hS hl => lv_icmp_eq C.1 C.2.1 hd ht (fun h => kt h H locs ls hW hS hl) (fun h => kf h H locs ls hW hS hl)
theorem gx_icmp_ne (C : Cx X cc own ret fr lo nL Qc) {x y : Int32} {off : Int} {tgt : Nat} (hd : decode cc pc = .ok (.if_icmp .ne off, 3)) (ht : (pc : Int) + off = (tgt : Int)) (kt : ¬ x = y → G X σ lv st tgt) (kf : x = y → G X σ lv st (pc + 3)) : G X σ lv (.int y :: .int x :: st) pc := fun H locs ls hW hS hl => lv_icmp_ne C.1 C.2.1 hd ht (fun h => kt h H locs ls hW hS hl) (fun h => kf h H locs ls hW hS hl)
theorem gx_icmp_lt (C : Cx X cc own ret fr lo nL Qc) {x y : Int32} {off : Int} {tgt : Nat} (hd : decode cc pc = .ok (.if_icmp .lt off, 3)) (ht : (pc : Int) + off = (tgt : Int)) (kt : x < y → G X σ lv st tgt) (kf : ¬ x < y → G X σ lv st (pc + 3)) : G X σ lv (.int y :: .int x :: st) pc := fun H locs ls hW hS hl => lv_icmp_lt C.1 C.2.1 hd ht (fun h => kt h H locs ls hW hS hl) (fun h => kf h H locs ls hW hS hl)
theorem gx_icmp_ge (C : Cx X cc own ret fr lo nL Qc) {x y : Int32} {off : Int} {tgt : Nat} (hd : decode cc pc = .ok (.if_icmp .ge off, 3)) (ht : (pc : Int) + off = (tgt : Int)) (kt : y ≤ x → G X σ lv st tgt) (kf : ¬ y ≤ x → G X σ lv st (pc + 3)) : G X σ lv (.int y :: .int x :: st) pc := fun H locs ls hW hS hl => lv_icmp_ge C.1 C.2.1 hd ht (fun h => kt h H locs ls hW hS hl) (fun h => kf h H locs ls hW hS hl)
theorem gx_icmp_gt (C : Cx X cc own ret fr lo nL Qc) {x y : Int32} {off : Int} {tgt : Nat} (hd : decode cc pc = .ok (.if_icmp .gt off, 3)) (ht : (pc : Int) + off = (tgt : Int)) (kt : y < x → G X σ lv st tgt) (kf : ¬ y < x → G X σ lv st (pc + 3)) : G X σ lv (.int y :: .int x :: st) pc := fun H locs ls hW hS hl => lv_icmp_gt C.1 C.2.1 hd ht (fun h => kt h H locs ls hW hS hl) (fun h => kf h H locs ls hW hS hl)
theorem gx_icmp_le (C : Cx X cc own ret fr lo nL Qc) {x y : Int32} {off : Int} {tgt : Nat} (hd : decode cc pc = .ok (.if_icmp .le off, 3)) (ht : (pc : Int) + off = (tgt : Int)) (kt : x ≤ y → G X σ lv st tgt) (kf : ¬ x ≤ y → G X σ lv st (pc + 3)) : G X σ lv (.int y :: .int x :: st) pc := fun H locs ls hW hS hl => lv_icmp_le C.1 C.2.1 hd ht (fun h => kt h H locs ls hW hS hl) (fun h => kf h H locs ls hW hS hl)
theorem gx_goto (C : Cx X cc own ret fr lo nL Qc) {off : Int} {tgt : Nat} (hd : decode cc pc = .ok (.goto off, 3)) (ht : (pc : Int) + off = (tgt : Int)) (kk : G X σ lv st tgt) : G X σ lv st pc := fun H locs ls hW hS hl => lv_goto C.1 C.2.1 hd ht (kk H locs ls hW hS hl)
theorem gx_sub {lv' : List (Nat × Value)} (ks : List Nat) (h : lv_pick lv ks = lv') (kk : G X σ lv' st pc) : G X σ lv st pc := fun H locs ls hW hS hl => kk H locs ls hW hS (lv_sub hl ks h)
theorem gx_top {x y : Int32} (e : x = y) (kk : G X σ lv (.int x :: st) pc) : G X σ lv (.int y :: st) pc := e ▸ kk
theorem gx_topl {x y : Int64} (e : x = y) (kk : G X σ lv (.long x :: st) pc) : G X σ lv (.long y :: st) pc := e ▸ kk
theorem gx_table (C : Cx X cc own ret fr lo nL Qc) {dflt lo hi : Int} {offs : Array Int} {len : Nat} {x : Int32} {off : Int} {tgt : Nat} (hd : decode cc pc = .ok (.tableswitch dflt lo hi offs, len)) (k : Int32) (hx : x = k) (h1 : ¬ k.toInt < lo) (h2 : ¬ hi < k.toInt) (ho : offs[(k.toInt - lo).toNat]? = some off) (ht : (pc : Int) + off = (tgt : Int)) (kk : G X σ lv st tgt) : G X σ lv (.int x :: st) pc := fun H locs ls hW hS hl => lv_tableIn C.1 C.2.1 hd (by rw [hx]; exact h1) (by rw [hx]; exact h2) (by rw [hx]; exact ho) ht (kk H locs ls hW hS hl)
theorem gx_tableD (C : Cx X cc own ret fr lo nL Qc) {dflt l h : Int} {offs : Array Int} {len : Nat} {x : Int32} {tgt : Nat} (hd : decode cc pc = .ok (.tableswitch dflt l h offs, len)) (hz : h - l + 1 = (offs.toList.length : Int)) (zl : List (Int × Nat)) (hzl : offs.toList.zipIdx = zl) (hall : ∀ p ∈ zl, p.1 = dflt ∨ ∃ k : Int32, ¬ x = k ∧ k.toInt = l + (p.2 : Int)) (ht : (pc : Int) + dflt = (tgt : Int)) (kk : G X σ lv st tgt) : G X σ lv (.int x :: st) pc := by
  intro H locs ls hW hS hl
  by_cases h1 : x.toInt < l
  · exact lv_tableOut C.1 C.2.1 hd (Or.inl h1) ht (kk H locs ls hW hS hl)
  · by_cases h2 : h < x.toInt
    · exact lv_tableOut C.1 C.2.1 hd (Or.inr h2) ht (kk H locs ls hW hS hl)
    · have hj : (x.toInt - l).toNat < offs.toList.length := by omega
      have hm := hall (offs.toList[(x.toInt - l).toNat], (x.toInt - l).toNat) (hzl ▸ List.mem_zipIdx_iff_getElem?.mpr (List.getElem?_eq_getElem hj))
      rcases hm with e | ⟨k, n, e⟩
      · exact lv_tableIn C.1 C.2.1 hd h1 h2 (by rw [← Array.getElem?_toList, List.getElem?_eq_getElem hj]; exact congrArg some e) ht (kk H locs ls hW hS hl)
      · exact absurd (Int32.toInt_inj.mp (by rw [e]; omega)) n
theorem gx_lookup (C : Cx X cc own ret fr lo nL Qc) {dflt : Int} {ps : Array (Int × Int)} {len : Nat} {x : Int32} {off : Int} {tgt : Nat} (hd : decode cc pc = .ok (.lookupswitch dflt ps, len)) (hp : (ps.toList.zip (ps.toList.drop 1)).all (fun (a, next) => a.1 < next.1) = true) (ho : Op.lookupswitch.offset ps.toList dflt x.toInt = off) (ht : (pc : Int) + off = (tgt : Int)) (kk : G X σ lv st tgt) : G X σ lv (.int x :: st) pc := fun H locs ls hW hS hl => lv_lookup C.1 C.2.1 hd hp ho ht (kk H locs ls hW hS hl)
theorem gx_get (C : Cx X cc own ret fr lo nL Qc) {mm k i : Nat} (ok : okc mm k i) {ci : Nat} {fs : List Value} (he : ce (tE X) k mm i (σ mm k i) = .inr (ci, fs)) {T : u_T} {N : Nat} {D : String} (hc : vwCl[ci]? = some (D, T, N)) (hin : ∀ w ∈ u_ws D T N, w ∈ BIG) {index : Nat} {ref : String} (j : Nat) (hj : j < N) (hw : Cond.fieldLink own index ref (T j).2.1 (T j).2.2.1 ∈ BIG) (hr : (T j).1 = ref) {v : Value} (hv : fs[j]? = some v) (hd : decode cc pc = .ok (.getfield index, 3)) (kk : G X σ lv (v :: st) (pc + 3)) : G X σ lv (.ref (ad (tE X) mm k i) :: st) pc := fun H locs ls hW hS hl => va_get C.1 C.2.1 C.2.2.2.2.2.2.1 hin C.2.2.2.2.1 C.2.2.2.2.2.2.2.1.1 (hW.cell ok he) 0 rfl hc j hj (C.2.2.2.2.2.2.1 _ hw) (fun _ h9 => by rw [← hr]; exact h9) hv hd (kk H locs ls hW hS hl)
theorem gx_put (C : Cx X cc own ret fr lo nL Qc) {mm k i : Nat} (ok : okc mm k i) {ci : Nat} {fs : List Value} (he : ce (tE X) k mm i (σ mm k i) = .inr (ci, fs)) {T : u_T} {N : Nat} {D : String} (hc : vwCl[ci]? = some (D, T, N)) (hin : ∀ w ∈ u_ws D T N, w ∈ BIG) (ty0 : Nat → FieldType) (hty : ∀ k, k < N → parseFieldDescriptor (T k).2.2.1 = some (ty0 k)) (hnm : ∀ a, a < N → ∀ b, b < N → a ≠ b → (T a).2.1 ≠ (T b).2.1) {index : Nat} {ref : String} (j : Nat) (hj : j < N) (hw : Cond.fieldLink own index ref (T j).2.1 (T j).2.2.1 ∈ BIG) (hr : (T j).1 = ref) (hfin : (T j).2.2.2 = false) {v : Value} (hn : narrow (ty0 j) v = v) (hfit : fits (ty0 j) v = true) (hl9 : j < fs.length) (f' : Nat → Int32) (hset : ce (tE X) k mm i f' = .inr (ci, fs.set j v)) (hd : decode cc pc = .ok (.putfield index, 3)) (kk : G X (ua σ mm k i f') lv st (pc + 3)) : G X σ lv (v :: .ref (ad (tE X) mm k i) :: st) pc := by
  intro H locs ls hW hS hl
  obtain ⟨q, hq, hwl⟩ := wl_at (tE X) σ ok
  rw [he] at hwl
  refine va_put C.1 C.2.1 C.2.2.2.2.2.2.1 hin ty0 hty hnm C.2.2.2.2.1 C.2.2.2.2.2.2.2.1.1 hW (wl_D _ _ C.2.2.2.2.2.2.2.1.2.1) hS q hwl hc j hj (C.2.2.2.2.2.2.1 _ hw) (fun _ h9 => by rw [← hr]; exact h9) hfin (hty j hj) hn hfit hl9 hd (fun H1 locs1 hP1 hD1 hS1 => ?_)
  rw [← hset, wl_set _ _ hq] at hP1
  exact kk H1 locs1 ls hP1 hS1 hl
theorem gx_iald (C : Cx X cc own ret fr lo nL Qc) {mm k i : Nat} (ok : okc mm k i) {n : Nat} {f : Nat → Int32} (he : ce (tE X) k mm i (σ mm k i) = .inl (eC (tE X) 0, n, .inl f)) {x : Int32} (hx : vp_in x n) (j : Nat) (hj : x.toNatClampNeg = j) (hd : decode cc pc = .ok (.iaload, 1)) (kk : G X σ lv (.int (f j) :: st) (pc + 1)) : G X σ lv (.int x :: .ref (ad (tE X) mm k i) :: st) pc := fun H locs ls hW hS hl => va_iald C.1 C.2.1 C.2.2.2.2.2.2.2.1.1 (hW.cell ok he) 0 0 rfl rfl hx hd (by rw [hj]; exact kk H locs ls hW hS hl)
theorem gx_zald (C : Cx X cc own ret fr lo nL Qc) {mm k i : Nat} (ok : okc mm k i) {n : Nat} {f : Nat → Int32} (he : ce (tE X) k mm i (σ mm k i) = .inl (eC (tE X) 1, n, .inl f)) {x : Int32} (hx : vp_in x n) (j : Nat) (hj : x.toNatClampNeg = j) (hd : decode cc pc = .ok (.baload, 1)) (kk : G X σ lv (.int (f j) :: st) (pc + 1)) : G X σ lv (.int x :: .ref (ad (tE X) mm k i) :: st) pc := fun H locs ls hW hS hl => va_zald C.1 C.2.1 C.2.2.2.2.2.2.2.1.1 (hW.cell ok he) 0 1 rfl rfl hx hd (by rw [hj]; exact kk H locs ls hW hS hl)
theorem gx_cald (C : Cx X cc own ret fr lo nL Qc) {mm k i : Nat} (ok : okc mm k i) {n : Nat} {f : Nat → Int32} (he : ce (tE X) k mm i (σ mm k i) = .inl (eC (tE X) 2, n, .inl f)) {x : Int32} (hx : vp_in x n) (j : Nat) (hj : x.toNatClampNeg = j) (hd : decode cc pc = .ok (.caload, 1)) (kk : G X σ lv (.int (f j) :: st) (pc + 1)) : G X σ lv (.int x :: .ref (ad (tE X) mm k i) :: st) pc := fun H locs ls hW hS hl => va_cald C.1 C.2.1 C.2.2.2.2.2.2.2.1.1 (hW.cell ok he) 0 2 rfl rfl hx hd (by rw [hj]; exact kk H locs ls hW hS hl)
theorem gx_aald (C : Cx X cc own ret fr lo nL Qc) {mm k i : Nat} (ok : okc mm k i) {n t0 : Nat} {D : String} {cA : ClassId} {f : Nat → Option Nat} (he : ce (tE X) k mm i (σ mm k i) = .inl (cA, n, .inr (.inr (.inr (.inr f))))) (ht : (ety (tE X))[t0]? = some (cA, .object D)) {x : Int32} (hx : vp_in x n) {v : Value} (hv : va_rf (f x.toNatClampNeg) = v) (hd : decode cc pc = .ok (.aaload, 1)) (kk : G X σ lv (v :: st) (pc + 1)) : G X σ lv (.int x :: .ref (ad (tE X) mm k i) :: st) pc := fun H locs ls hW hS hl => va_aldq C.1 C.2.1 C.2.2.2.2.2.2.2.1.1 (hW.cell ok he) 0 t0 rfl ht hx hd (by rw [hv]; exact kk H locs ls hW hS hl)
theorem gx_alen (C : Cx X cc own ret fr lo nL Qc) {mm k i : Nat} (ok : okc mm k i) {t0 : Nat} {ty : FieldType} {cA : ClassId} {a : vp_A} (he : ce (tE X) k mm i (σ mm k i) = .inl (cA, a)) (ht : (ety (tE X))[t0]? = some (cA, ty)) {v : Int32} (hv : Int32.ofNat a.1 = v) (hd : decode cc pc = .ok (.arraylength, 1)) (kk : G X σ lv (.int v :: st) (pc + 1)) : G X σ lv (.ref (ad (tE X) mm k i) :: st) pc := fun H locs ls hW hS hl => va_alen C.1 C.2.1 C.2.2.2.2.2.2.2.1.1 (hW.cell ok he) 0 t0 rfl ht hv hd (kk H locs ls hW hS hl)
theorem gx_iast (C : Cx X cc own ret fr lo nL Qc) {mm k i : Nat} (ok : okc mm k i) {n : Nat} (he : ∀ f, ce (tE X) k mm i f = .inl (eC (tE X) 0, n, .inl f)) {x y : Int32} (hx : vp_in x n) (j : Nat) (hj : x.toNatClampNeg = j) {y' : Int32} (hy' : y = y') (hd : decode cc pc = .ok (.iastore, 1)) (kk : G X (ua σ mm k i (upd (σ mm k i) j y')) lv st (pc + 1)) : G X σ lv (.int y :: .int x :: .ref (ad (tE X) mm k i) :: st) pc := by
  intro H locs ls hW hS hl
  obtain ⟨q, hq, hwl⟩ := wl_at (tE X) σ ok
  rw [he] at hwl
  refine va_iast C.1 C.2.1 C.2.2.2.2.2.2.2.1.1 hW (wl_D _ _ C.2.2.2.2.2.2.2.1.2.1) hS q 0 hwl rfl hx hd (fun H1 locs1 hP1 hD1 hS1 => ?_)
  rw [hj, hy', ← he, wl_set _ _ hq] at hP1
  exact kk H1 locs1 ls hP1 hS1 hl
theorem gx_zast (C : Cx X cc own ret fr lo nL Qc) {mm k i : Nat} (ok : okc mm k i) {n : Nat} (he : ∀ f, ce (tE X) k mm i f = .inl (eC (tE X) 1, n, .inl f)) {x y : Int32} (hx : vp_in x n) (j : Nat) (hj : x.toNatClampNeg = j) {y' : Int32} (hy' : vp_nar .boolean y = y') (hd : decode cc pc = .ok (.bastore, 1)) (kk : G X (ua σ mm k i (upd (σ mm k i) j y')) lv st (pc + 1)) : G X σ lv (.int y :: .int x :: .ref (ad (tE X) mm k i) :: st) pc := by
  intro H locs ls hW hS hl
  obtain ⟨q, hq, hwl⟩ := wl_at (tE X) σ ok
  rw [he] at hwl
  refine va_zast C.1 C.2.1 C.2.2.2.2.2.2.2.1.1 hW (wl_D _ _ C.2.2.2.2.2.2.2.1.2.1) hS q 1 hwl rfl hx hd (fun H1 locs1 hP1 hD1 hS1 => ?_)
  rw [hj, hy', ← he, wl_set _ _ hq] at hP1
  exact kk H1 locs1 ls hP1 hS1 hl
theorem gx_cast (C : Cx X cc own ret fr lo nL Qc) {mm k i : Nat} (ok : okc mm k i) {n : Nat} (he : ∀ f, ce (tE X) k mm i f = .inl (eC (tE X) 2, n, .inl f)) {x y : Int32} (hx : vp_in x n) (j : Nat) (hj : x.toNatClampNeg = j) {y' : Int32} (hy' : vp_nar .char y = y') (hd : decode cc pc = .ok (.castore, 1)) (kk : G X (ua σ mm k i (upd (σ mm k i) j y')) lv st (pc + 1)) : G X σ lv (.int y :: .int x :: .ref (ad (tE X) mm k i) :: st) pc := by
  intro H locs ls hW hS hl
  obtain ⟨q, hq, hwl⟩ := wl_at (tE X) σ ok
  rw [he] at hwl
  refine va_cast C.1 C.2.1 C.2.2.2.2.2.2.2.1.1 hW (wl_D _ _ C.2.2.2.2.2.2.2.1.2.1) hS q 2 hwl rfl hx hd (fun H1 locs1 hP1 hD1 hS1 => ?_)
  rw [hj, hy', ← he, wl_set _ _ hq] at hP1
  exact kk H1 locs1 ls hP1 hS1 hl
theorem gx_iret {Q : Int32 → Sg → Prop} (C : Cx X cc own ret fr lo nL (QI (tE X) Q)) {ty : FieldType} (hret : ret = some ty) {v : Int32} (hn : narrow ty (.int v) = .int v) (hd : decode cc pc = .ok (.ireturn, 1)) (hq : Q v σ) : G X σ lv [.int v] pc := by
  intro H locs ls hW hS hl
  unfold GH
  rw [C.2.2.2.2.2.2.2.2.2.2]
  exact W.zret C.1 C.2.1 (C.2.2.1.trans hret) hn (fun t ht hWm => ⟨⟨v, σ, rfl, hq, by show WD (tE X) σ t.heap; rw [ht]; exact hW⟩, hS.F ht⟩) hS.2.2 hd C.2.2.2.2.2.1
theorem gx_vret {Q : Sg → Prop} (C : Cx X cc own none fr lo nL (QV (tE X) Q)) (hd : decode cc pc = .ok (.return_, 1)) (hq : Q σ) : G X σ lv [] pc := by
  intro H locs ls hW hS hl
  unfold GH
  rw [C.2.2.2.2.2.2.2.2.2.2]
  exact W.vret C.1 C.2.1 C.2.2.1 (fun t ht hWm => ⟨⟨σ, rfl, hq, by show WD (tE X) σ t.heap; rw [ht]; exact hW⟩, hS.F ht⟩) hS.2.2 hd C.2.2.2.2.2.1
end GR
end
section
section GC
variable {X : Tx} {cc : ByteArray} {own : String} {ret : Option FieldType} {fr lo nL : Nat} {Qc : Array Value → State → Outcome → State → Prop} {σ : Sg} {lv : List (Nat × Value)} {st : List Value} {pc : Nat}
theorem big_blind {E : Ev} {av : List Value} {σ : Sg} : FrameBlind (va_Pc av (fun U => WD E σ U.heap ∧ EV E U U.heap)) := fun a U g mk q => ⟨q.1, q.2.1, EV.same (u := U) (U := U.calling g mk a) rfl rfl q.2.2⟩
theorem big_pre {H : Heap} {locs : List Loc} {av : List Value} (C : Cx X cc own ret fr lo nL Qc) (hW : WD (tE X) σ H) (hS : va_S (eA (tE X)) (tS X).heap H locs) : ∀ U : State, U.heap = H → (tS X).WarmedH U.vm → va_Pc av (fun U => WD (tE X) σ U.heap ∧ EV (tE X) U U.heap) av.toArray U := fun U hU hWm => ⟨rfl, by rw [hU]; exact hW, EV.next C.2.2.2.2.2.2.2.1 hWm hS hU⟩
theorem big_recv {H : Heap} (C : Cx X cc own ret fr lo nL Qc) (hW : WD (tE X) σ H) {mm k i : Nat} (ok : okc mm k i) {ci : Nat} {fs : List Value} (he : ce (tE X) k mm i (σ mm k i) = .inr (ci, fs)) {q : vw_C} (hc : vwCl[ci]? = some q) : ∃ cell : Cell, H[ad (tE X) mm k i]? = some cell ∧ cell.vm.isStatics = false ∧ (tS X).vm.findClass q.1 = some cell.cls := va_recv C.2.2.2.2.2.2.2.1.1 (hW.cell ok he) hc (q0 := 0) rfl
theorem big_code {y : MethodName} {b : ByteArray} {n : Nat} {r : Option FieldType} (h : Cond.code y b n r ∈ BIG) : GoodIn BIG (Cond.code y b n r :: BIG) := fun w hw => (List.mem_cons.mp hw).elim (fun e => e ▸ big_GoodIn _ h) (big_GoodIn w)
theorem big_wsV {o C : String} {ix : Nat} {y : MethodName} {ws : List Cond} (h1 : Cond.methodLink o ix y ∈ BIG) (h2 : Cond.instanceMethod y ∈ BIG) (h3 : Cond.selects C y y ∈ BIG) (h4 : Cond.initialized C ∈ BIG) (h : GoodIn BIG ws) : GoodIn BIG (wsV o ix C y ws) := by
  intro w hw
  simp only [wsV, List.mem_append, List.mem_cons, List.not_mem_nil, or_false] at hw
  rcases hw with (rfl | rfl | rfl | rfl) | hw
  · exact big_GoodIn _ h1
  · exact big_GoodIn _ h2
  · exact big_GoodIn _ h3
  · exact big_GoodIn _ h4
  · exact h w hw
theorem big_wsS {o : String} {ix : Nat} {y : MethodName} {ws : List Cond} (h1 : Cond.methodLink o ix y ∈ BIG) (h2 : Cond.static y ∈ BIG) (h3 : Cond.initialized y.cls ∈ BIG) (h : GoodIn BIG ws) : GoodIn BIG (va_wsS o ix y ws) := by
  intro w hw
  simp only [va_wsS, List.mem_append, List.mem_cons, List.not_mem_nil, or_false] at hw
  rcases hw with (rfl | rfl | rfl) | hw
  · exact big_GoodIn _ h1
  · exact big_GoodIn _ h2
  · exact big_GoodIn _ h3
  · exact h w hw
theorem gx_vcalli (C : Cx X cc own ret fr lo nL Qc) {y : MethodName} {cc' : ByteArray} {nL' fr' lo' idx : Nat} {ty : FieldType} {Q : Int32 → Sg → Prop} {As rest : List Value} {mm k i : Nat} (hc : CT (tL X) (tE X) y cc' nL' (some ty) fr' lo' (.ref (ad (tE X) mm k i) :: As) σ (QI (tE X) Q)) (ok : okc mm k i) {ci : Nat} {fs : List Value} (he : ce (tE X) k mm i (σ mm k i) = .inr (ci, fs)) {q : vw_C} (hq : vwCl[ci]? = some q) (h1 : Cond.methodLink own idx y ∈ BIG) (h2 : Cond.instanceMethod y ∈ BIG) (h3 : Cond.selects q.1 y y ∈ BIG) (h4 : Cond.initialized q.1 ∈ BIG) (h5 : Cond.code y cc' nL' (some ty) ∈ BIG) (hy : y.cls = q.1 ∧ y.cls ≠ "java/lang/invoke/MethodHandle" ∧ y.cls ≠ "java/lang/invoke/VarHandle" ∧ (parseMethodDescriptor y.desc).map (fun d => d.parameters.length) = some As.length) (hR : fr' + 1 ≤ fr ∧ 8 + (nL' + 11) + lo' ≤ lo) (hst : st = As.reverse ++ .ref (ad (tE X) mm k i) :: rest) (hr : (rest.map fun v => v.category).sum ≤ 8) (hd : decode cc pc = .ok (.invokevirtual idx, 3)) (kk : ∀ (r : Int32) (σ' : Sg), Q r σ' → G X σ' lv (.int r :: rest) (pc + 3)) : G X σ lv st pc := by
  intro H locs ls hW hS hl
  subst hst
  exact va_calli (va_runV (As := As) (rest := rest) ⟨C.1, C.2.1, C.2.2.2.1, C.2.2.2.2.1, C.2.2.2.2.2.2.1⟩ hc (cwV As.length C.2.2.2.2.2.2.1 (big_wsV h1 h2 h3 h4 (big_code h5)) rfl rfl rfl hy (by rw [C.2.2.2.2.2.2.2.2.1]; exact hR)) ⟨big_blind, big_recv C hW ok he hq, big_pre C hW hS⟩ rfl rfl hl.1 rfl (lv_room hr) hd ⟨Nat.zero_le _, Nat.zero_le _⟩) hS (fun q _ h => h) (fun q h => h) (fun r u t H1 locs1 ht hvm hw hB hz1 hk1 hS1 => kk r u hw H1 locs1 ls (by rw [← ht]; exact hB) hS1 hl)
theorem gx_kcalli (C : Cx X cc own ret fr lo nL Qc) {y : MethodName} {cc' : ByteArray} {nL' fr' lo' idx : Nat} {ty : FieldType} {Q : Int32 → Sg → Prop} {As rest : List Value} {j : Nat} (hj : j < 7) (hc : CT (tL X) (tE X) y cc' nL' (some ty) fr' lo' (.ref (eK (tE X) j) :: As) σ (QI (tE X) Q)) (h1 : Cond.methodLink own idx y ∈ BIG) (h2 : Cond.instanceMethod y ∈ BIG) (h3 : Cond.selects "java/lang/String" y y ∈ BIG) (h4 : Cond.initialized "java/lang/String" ∈ BIG) (h5 : Cond.code y cc' nL' (some ty) ∈ BIG) (hy : y.cls = "java/lang/String" ∧ y.cls ≠ "java/lang/invoke/MethodHandle" ∧ y.cls ≠ "java/lang/invoke/VarHandle" ∧ (parseMethodDescriptor y.desc).map (fun d => d.parameters.length) = some As.length) (hR : fr' + 1 ≤ fr ∧ 8 + (nL' + 11) + lo' ≤ lo) (hst : st = As.reverse ++ .ref (eK (tE X) j) :: rest) (hr : (rest.map fun v => v.category).sum ≤ 8) (hd : decode cc pc = .ok (.invokevirtual idx, 3)) (kk : ∀ (r : Int32) (σ' : Sg), Q r σ' → G X σ' lv (.int r :: rest) (pc + 3)) : G X σ lv st pc := by
  intro H locs ls hW hS hl
  subst hst
  exact va_calli (va_runV (As := As) (rest := rest) ⟨C.1, C.2.1, C.2.2.2.1, C.2.2.2.2.1, C.2.2.2.2.2.2.1⟩ hc (cwV As.length C.2.2.2.2.2.2.1 (big_wsV h1 h2 h3 h4 (big_code h5)) rfl rfl rfl hy (by rw [C.2.2.2.2.2.2.2.2.1]; exact hR)) ⟨big_blind, vk_recv C.2.2.2.2.2.2.2.1.2.2.2.2.2.2.2.2.1 hj hS, big_pre C hW hS⟩ rfl rfl hl.1 rfl (lv_room hr) hd ⟨Nat.zero_le _, Nat.zero_le _⟩) hS (fun q _ h => h) (fun q h => h) (fun r u t H1 locs1 ht hvm hw hB hz1 hk1 hS1 => kk r u hw H1 locs1 ls (by rw [← ht]; exact hB) hS1 hl)
theorem gx_scalli (C : Cx X cc own ret fr lo nL Qc) {y : MethodName} {cc' : ByteArray} {nL' fr' lo' idx : Nat} {ty : FieldType} {Q : Int32 → Sg → Prop} {As rest : List Value} (hc : CT (tL X) (tE X) y cc' nL' (some ty) fr' lo' As σ (QI (tE X) Q)) (h1 : Cond.methodLink own idx y ∈ BIG) (h2 : Cond.static y ∈ BIG) (h4 : Cond.initialized y.cls ∈ BIG) (h5 : Cond.code y cc' nL' (some ty) ∈ BIG) (hy : y.cls ≠ "java/lang/invoke/MethodHandle" ∧ y.cls ≠ "java/lang/invoke/VarHandle" ∧ (parseMethodDescriptor y.desc).map (fun d => d.parameters.length) = some As.length) (hR : fr' + 1 ≤ fr ∧ 8 + (nL' + 11) + lo' ≤ lo) (hst : st = As.reverse ++ rest) (hr : (rest.map fun v => v.category).sum ≤ 8) (hd : decode cc pc = .ok (.invokestatic idx, 3)) (kk : ∀ (r : Int32) (σ' : Sg), Q r σ' → G X σ' lv (.int r :: rest) (pc + 3)) : G X σ lv st pc := by
  intro H locs ls hW hS hl
  subst hst
  exact va_calli (va_runS (As := As) (rest := rest) ⟨C.1, C.2.1, C.2.2.2.1, C.2.2.2.2.1, C.2.2.2.2.2.2.1⟩ hc (va_cwS As.length C.2.2.2.2.2.2.1 (big_wsS h1 h2 h4 (big_code h5)) rfl rfl rfl hy (by rw [C.2.2.2.2.2.2.2.2.1]; exact hR)) ⟨big_blind, big_pre C hW hS⟩ rfl rfl hl.1 rfl (lv_room hr) hd ⟨Nat.zero_le _, Nat.zero_le _⟩) hS (fun q _ h => h) (fun q h => h) (fun r u t H1 locs1 ht hvm hw hB hz1 hk1 hS1 => kk r u hw H1 locs1 ls (by rw [← ht]; exact hB) hS1 hl)
theorem gx_ncalli (C : Cx X cc own ret fr lo nL Qc) {y : MethodName} {cc' : ByteArray} {nL' fr' lo' idx : Nat} {host : String} {ty : FieldType} {Q : Int32 → Sg → Prop} {As rest : List Value} (hc : CT (tL X) (tE X) y cc' nL' (some ty) fr' lo' As σ (QI (tE X) Q)) (h1 : Cond.methodLinkNest own idx y host ∈ tables_1) (h2 : Cond.static y ∈ BIG) (h4 : Cond.initialized y.cls ∈ BIG) (h5 : Cond.code y cc' nL' (some ty) ∈ BIG) (hy : y.cls ≠ "java/lang/invoke/MethodHandle" ∧ y.cls ≠ "java/lang/invoke/VarHandle" ∧ (parseMethodDescriptor y.desc).map (fun d => d.parameters.length) = some As.length) (hR : fr' + 1 ≤ fr ∧ 8 + (nL' + 11) + lo' ≤ lo) (hst : st = As.reverse ++ rest) (hr : (rest.map fun v => v.category).sum ≤ 8) (hd : decode cc pc = .ok (.invokestatic idx, 3)) (kk : ∀ (r : Int32) (σ' : Sg), Q r σ' → G X σ' lv (.int r :: rest) (pc + 3)) : G X σ lv st pc := by
  intro H locs ls hW hS hl
  subst hst
  exact va_calli (va_runSN (As := As) (rest := rest) ⟨C.1, C.2.1, C.2.2.2.1, C.2.2.2.2.1, C.2.2.2.2.2.2.1⟩ hc ⟨va_cnB As.length C.2.2.2.2.2.2.1 (big_code h5) rfl rfl rfl (C.2.2.2.2.2.2.2.1.2.2.1 _ _ _ _ h1) (C.2.2.2.2.2.2.1 _ h4) hy (by rw [C.2.2.2.2.2.2.2.2.1]; exact hR), C.2.2.2.2.2.2.1 _ h2, trivial⟩ ⟨big_blind, big_pre C hW hS⟩ rfl rfl hl.1 rfl (lv_room hr) hd ⟨Nat.zero_le _, Nat.zero_le _⟩) hS (fun q _ h => h) (fun q h => h) (fun r u t H1 locs1 ht hvm hw hB hz1 hk1 hS1 => kk r u hw H1 locs1 ls (by rw [← ht]; exact hB) hS1 hl)
theorem gx_vcallv (C : Cx X cc own ret fr lo nL Qc) {y : MethodName} {cc' : ByteArray} {nL' fr' lo' idx : Nat} {Q : Sg → Prop} {As rest : List Value} {mm k i : Nat} (hc : CT (tL X) (tE X) y cc' nL' none fr' lo' (.ref (ad (tE X) mm k i) :: As) σ (QV (tE X) Q)) (ok : okc mm k i) {ci : Nat} {fs : List Value} (he : ce (tE X) k mm i (σ mm k i) = .inr (ci, fs)) {q : vw_C} (hq : vwCl[ci]? = some q) (h1 : Cond.methodLink own idx y ∈ BIG) (h2 : Cond.instanceMethod y ∈ BIG) (h3 : Cond.selects q.1 y y ∈ BIG) (h4 : Cond.initialized q.1 ∈ BIG) (h5 : Cond.code y cc' nL' none ∈ BIG) (hy : y.cls = q.1 ∧ y.cls ≠ "java/lang/invoke/MethodHandle" ∧ y.cls ≠ "java/lang/invoke/VarHandle" ∧ (parseMethodDescriptor y.desc).map (fun d => d.parameters.length) = some As.length) (hR : fr' + 1 ≤ fr ∧ 8 + (nL' + 11) + lo' ≤ lo) (hst : st = As.reverse ++ .ref (ad (tE X) mm k i) :: rest) (hr : (rest.map fun v => v.category).sum ≤ 8) (hd : decode cc pc = .ok (.invokevirtual idx, 3)) (kk : ∀ σ' : Sg, Q σ' → G X σ' lv rest (pc + 3)) : G X σ lv st pc := by
  intro H locs ls hW hS hl
  subst hst
  exact va_callv (va_runV (As := As) (rest := rest) ⟨C.1, C.2.1, C.2.2.2.1, C.2.2.2.2.1, C.2.2.2.2.2.2.1⟩ hc (cwV As.length C.2.2.2.2.2.2.1 (big_wsV h1 h2 h3 h4 (big_code h5)) rfl rfl rfl hy (by rw [C.2.2.2.2.2.2.2.2.1]; exact hR)) ⟨big_blind, big_recv C hW ok he hq, big_pre C hW hS⟩ rfl rfl hl.1 rfl (lv_room hr) hd ⟨Nat.zero_le _, Nat.zero_le _⟩) hS (fun q _ h => h) (fun q h => h) (fun u t H1 locs1 ht hvm hw hB hz1 hk1 hS1 => kk u hw H1 locs1 ls (by rw [← ht]; exact hB) hS1 hl)
theorem gx_kcallv (C : Cx X cc own ret fr lo nL Qc) {y : MethodName} {cc' : ByteArray} {nL' fr' lo' idx : Nat} {Q : Sg → Prop} {As rest : List Value} {j : Nat} (hj : j < 7) (hc : CT (tL X) (tE X) y cc' nL' none fr' lo' (.ref (eK (tE X) j) :: As) σ (QV (tE X) Q)) (h1 : Cond.methodLink own idx y ∈ BIG) (h2 : Cond.instanceMethod y ∈ BIG) (h3 : Cond.selects "java/lang/String" y y ∈ BIG) (h4 : Cond.initialized "java/lang/String" ∈ BIG) (h5 : Cond.code y cc' nL' none ∈ BIG) (hy : y.cls = "java/lang/String" ∧ y.cls ≠ "java/lang/invoke/MethodHandle" ∧ y.cls ≠ "java/lang/invoke/VarHandle" ∧ (parseMethodDescriptor y.desc).map (fun d => d.parameters.length) = some As.length) (hR : fr' + 1 ≤ fr ∧ 8 + (nL' + 11) + lo' ≤ lo) (hst : st = As.reverse ++ .ref (eK (tE X) j) :: rest) (hr : (rest.map fun v => v.category).sum ≤ 8) (hd : decode cc pc = .ok (.invokevirtual idx, 3)) (kk : ∀ σ' : Sg, Q σ' → G X σ' lv rest (pc + 3)) : G X σ lv st pc := by
  intro H locs ls hW hS hl
  subst hst
  exact va_callv (va_runV (As := As) (rest := rest) ⟨C.1, C.2.1, C.2.2.2.1, C.2.2.2.2.1, C.2.2.2.2.2.2.1⟩ hc (cwV As.length C.2.2.2.2.2.2.1 (big_wsV h1 h2 h3 h4 (big_code h5)) rfl rfl rfl hy (by rw [C.2.2.2.2.2.2.2.2.1]; exact hR)) ⟨big_blind, vk_recv C.2.2.2.2.2.2.2.1.2.2.2.2.2.2.2.2.1 hj hS, big_pre C hW hS⟩ rfl rfl hl.1 rfl (lv_room hr) hd ⟨Nat.zero_le _, Nat.zero_le _⟩) hS (fun q _ h => h) (fun q h => h) (fun u t H1 locs1 ht hvm hw hB hz1 hk1 hS1 => kk u hw H1 locs1 ls (by rw [← ht]; exact hB) hS1 hl)
theorem gx_scallv (C : Cx X cc own ret fr lo nL Qc) {y : MethodName} {cc' : ByteArray} {nL' fr' lo' idx : Nat} {Q : Sg → Prop} {As rest : List Value} (hc : CT (tL X) (tE X) y cc' nL' none fr' lo' As σ (QV (tE X) Q)) (h1 : Cond.methodLink own idx y ∈ BIG) (h2 : Cond.static y ∈ BIG) (h4 : Cond.initialized y.cls ∈ BIG) (h5 : Cond.code y cc' nL' none ∈ BIG) (hy : y.cls ≠ "java/lang/invoke/MethodHandle" ∧ y.cls ≠ "java/lang/invoke/VarHandle" ∧ (parseMethodDescriptor y.desc).map (fun d => d.parameters.length) = some As.length) (hR : fr' + 1 ≤ fr ∧ 8 + (nL' + 11) + lo' ≤ lo) (hst : st = As.reverse ++ rest) (hr : (rest.map fun v => v.category).sum ≤ 8) (hd : decode cc pc = .ok (.invokestatic idx, 3)) (kk : ∀ σ' : Sg, Q σ' → G X σ' lv rest (pc + 3)) : G X σ lv st pc := by
  intro H locs ls hW hS hl
  subst hst
  exact va_callv (va_runS (As := As) (rest := rest) ⟨C.1, C.2.1, C.2.2.2.1, C.2.2.2.2.1, C.2.2.2.2.2.2.1⟩ hc (va_cwS As.length C.2.2.2.2.2.2.1 (big_wsS h1 h2 h4 (big_code h5)) rfl rfl rfl hy (by rw [C.2.2.2.2.2.2.2.2.1]; exact hR)) ⟨big_blind, big_pre C hW hS⟩ rfl rfl hl.1 rfl (lv_room hr) hd ⟨Nat.zero_le _, Nat.zero_le _⟩) hS (fun q _ h => h) (fun q h => h) (fun u t H1 locs1 ht hvm hw hB hz1 hk1 hS1 => kk u hw H1 locs1 ls (by rw [← ht]; exact hB) hS1 hl)
theorem gx_ncallv (C : Cx X cc own ret fr lo nL Qc) {y : MethodName} {cc' : ByteArray} {nL' fr' lo' idx : Nat} {host : String} {Q : Sg → Prop} {As rest : List Value} (hc : CT (tL X) (tE X) y cc' nL' none fr' lo' As σ (QV (tE X) Q)) (h1 : Cond.methodLinkNest own idx y host ∈ tables_1) (h2 : Cond.static y ∈ BIG) (h4 : Cond.initialized y.cls ∈ BIG) (h5 : Cond.code y cc' nL' none ∈ BIG) (hy : y.cls ≠ "java/lang/invoke/MethodHandle" ∧ y.cls ≠ "java/lang/invoke/VarHandle" ∧ (parseMethodDescriptor y.desc).map (fun d => d.parameters.length) = some As.length) (hR : fr' + 1 ≤ fr ∧ 8 + (nL' + 11) + lo' ≤ lo) (hst : st = As.reverse ++ rest) (hr : (rest.map fun v => v.category).sum ≤ 8) (hd : decode cc pc = .ok (.invokestatic idx, 3)) (kk : ∀ σ' : Sg, Q σ' → G X σ' lv rest (pc + 3)) : G X σ lv st pc := by
  intro H locs ls hW hS hl
  subst hst
  exact va_callv (va_runSN (As := As) (rest := rest) ⟨C.1, C.2.1, C.2.2.2.1, C.2.2.2.2.1, C.2.2.2.2.2.2.1⟩ hc ⟨va_cnB As.length C.2.2.2.2.2.2.1 (big_code h5) rfl rfl rfl (C.2.2.2.2.2.2.2.1.2.2.1 _ _ _ _ h1) (C.2.2.2.2.2.2.1 _ h4) hy (by rw [C.2.2.2.2.2.2.2.2.1]; exact hR), C.2.2.2.2.2.2.1 _ h2, trivial⟩ ⟨big_blind, big_pre C hW hS⟩ rfl rfl hl.1 rfl (lv_room hr) hd ⟨Nat.zero_le _, Nat.zero_le _⟩) hS (fun q _ h => h) (fun q h => h) (fun u t H1 locs1 ht hvm hw hB hz1 hk1 hS1 => kk u hw H1 locs1 ls (by rw [← ht]; exact hB) hS1 hl)
theorem gx_mmax (C : Cx X cc own ret fr lo nL Qc) {x y : Int32} {idx : Nat} (hd : decode cc pc = .ok (.invokestatic idx, 3)) (h1 : Cond.methodLink own idx Lib.Math.max.name ∈ BIG) (h2 : Cond.static Lib.Math.max.name ∈ BIG) (h3 : Cond.initialized "java/lang/Math" ∈ BIG) (h4 : Cond.code Lib.Math.max.name Lib.Math.max.code 2 (some .int) ∈ BIG) (hR : 1 ≤ fr ∧ (st.map fun v => v.category).sum + 13 ≤ lo) (kk : G X σ lv (.int (if x < y then y else x) :: st) (pc + 3)) : G X σ lv (.int y :: .int x :: st) pc := fun H locs ls hW hS hl => va_mmax C.1 C.2.1 (C.2.2.2.1.trans hl.1.symm) C.2.2.2.2.1 (C.2.2.2.2.2.2.1 _ h1) (C.2.2.2.2.2.2.1 _ h2) (C.2.2.2.2.2.2.1 _ h3) (C.2.2.2.2.2.2.1 _ h4) (by rw [C.2.2.2.2.2.2.2.2.1]; exact hR.1) (by rw [C.2.2.2.2.2.2.2.2.1]; exact hR.2) (Nat.zero_le _) (Nat.zero_le _) hd (kk H locs ls hW hS hl)
theorem gx_mmin (C : Cx X cc own ret fr lo nL Qc) {x y : Int32} {idx : Nat} (hd : decode cc pc = .ok (.invokestatic idx, 3)) (h1 : Cond.methodLink own idx Lib.Math.min.name ∈ BIG) (h2 : Cond.static Lib.Math.min.name ∈ BIG) (h3 : Cond.initialized "java/lang/Math" ∈ BIG) (h4 : Cond.code Lib.Math.min.name Lib.Math.min.code 2 (some .int) ∈ BIG) (hR : 1 ≤ fr ∧ (st.map fun v => v.category).sum + 13 ≤ lo) (kk : G X σ lv (.int (if y < x then y else x) :: st) (pc + 3)) : G X σ lv (.int y :: .int x :: st) pc := fun H locs ls hW hS hl => va_mmin C.1 C.2.1 (C.2.2.2.1.trans hl.1.symm) C.2.2.2.2.1 (C.2.2.2.2.2.2.1 _ h1) (C.2.2.2.2.2.2.1 _ h2) (C.2.2.2.2.2.2.1 _ h3) (C.2.2.2.2.2.2.1 _ h4) (by rw [C.2.2.2.2.2.2.2.2.1]; exact hR.1) (by rw [C.2.2.2.2.2.2.2.2.1]; exact hR.2) (Nat.zero_le _) (Nat.zero_le _) hd (kk H locs ls hW hS hl)
theorem gx_copy (C : Cx X cc own ret fr lo nL Qc) {m1 k1 i1 m2 k2 i2 : Nat} (ok1 : okc m1 k1 i1) (ok2 : okc m2 k2 i2) {n1 n2 idx : Nat} {n : Int32} (he1 : ∀ f, ce (tE X) k1 m1 i1 f = .inl (eC (tE X) 0, n1, .inl f)) (he2 : ∀ f, ce (tE X) k2 m2 i2 f = .inl (eC (tE X) 0, n2, .inl f)) (hn : ¬ n < 0) (hn1 : n.toNatClampNeg ≤ n1) (hn2 : n.toNatClampNeg ≤ n2) (hd : decode cc pc = .ok (.invokestatic idx, 3)) (h1 : Cond.methodLink own idx arraycopyName ∈ BIG) (h2 : Cond.native arraycopyName ∈ BIG) (h3 : Cond.static arraycopyName ∈ BIG) (h4 : Cond.initialized "java/lang/System" ∈ BIG) (hR : 1 ≤ fr ∧ (st.map fun v => v.category).sum + (nativeFrameWords "java/lang/System" "arraycopy" 5 + 11) ≤ lo) (kk : G X (ua σ m2 k2 i2 (va_cpy (σ m1 k1 i1) (σ m2 k2 i2) 0 0 n.toNatClampNeg)) lv st (pc + 3)) : G X σ lv (.int n :: .int 0 :: .ref (ad (tE X) m2 k2 i2) :: .int 0 :: .ref (ad (tE X) m1 k1 i1) :: st) pc := by
  intro H locs ls hW hS hl
  obtain ⟨q1, -, hw1⟩ := wl_at (tE X) σ ok1
  obtain ⟨q2, hq2, hw2⟩ := wl_at (tE X) σ ok2
  rw [he1] at hw1
  rw [he2] at hw2
  have z : (0 : Int32).toNatClampNeg = 0 := by decide
  refine va_copyi C.1 C.2.1 (C.2.2.2.1.trans hl.1.symm) C.2.2.2.2.1 (C.2.2.2.2.2.2.1 _ h1) (C.2.2.2.2.2.2.1 _ h2) (C.2.2.2.2.2.2.1 _ h3) (C.2.2.2.2.2.2.1 _ h4) C.2.2.2.2.2.2.2.1.1 hW (wl_D _ _ C.2.2.2.2.2.2.2.1.2.1) hS q1 q2 0 0 hw1 hw2 rfl rfl rfl (by decide) (by decide) hn (by rw [z, Nat.zero_add]; exact hn1) (by rw [z, Nat.zero_add]; exact hn2) (fun _ _ => rfl) (by rw [C.2.2.2.2.2.2.2.2.1]; exact hR.1) (by rw [C.2.2.2.2.2.2.2.2.1]; exact hR.2) hd (fun H1 locs1 hP1 hD1 hS1 => ?_)
  rw [z, ← he2, wl_set _ _ hq2] at hP1
  exact kk H1 locs1 ls hP1 hS1 hl
theorem gx_gets0 (C : Cx X cc own ret fr lo nL Qc) {idx : Nat} (hd : decode cc pc = .ok (.getstatic idx, 3)) (h1 : Cond.fieldLink own idx "SweetWraps" "LEAST_OF_SETTING" "[I" ∈ BIG) (kk : G X σ lv (.ref (eT (tE X) 0) :: st) (pc + 3)) : G X σ lv st pc := fun H locs ls hW hS hl => va_gets C.1 C.2.1 C.2.2.2.2.2.2.2.1.2.2.2.2.1 hS C.2.2.2.2.1 (C.2.2.2.2.2.2.1 _ h1) (fun _ h => h) hd (kk H locs ls hW hS hl)
theorem gx_getsN0 (C : Cx X cc own ret fr lo nL Qc) {idx : Nat} (hd : decode cc pc = .ok (.getstatic idx, 3)) (h1 : Cond.fieldLinkNest own idx "SweetWraps" "LEAST_OF_SETTING" "[I" "SweetWraps" ∈ tables_1) (kk : G X σ lv (.ref (eT (tE X) 0) :: st) (pc + 3)) : G X σ lv st pc := fun H locs ls hW hS hl => va_getsN C.1 C.2.1 C.2.2.2.2.2.2.2.1.2.2.2.2.1 hS C.2.2.2.2.1 (va_Nw.use rfl (C.2.2.2.2.2.2.2.1.2.2.2.1 _ _ _ _ _ _ h1)) (fun _ h => h) hd (kk H locs ls hW hS hl)
theorem gx_tab0 (C : Cx X cc own ret fr lo nL Qc) {x : Int32} (hx : vp_in x 4) (hd : decode cc pc = .ok (.iaload, 1)) (kk : G X σ lv (.int (lst x.toNatClampNeg) :: st) (pc + 1)) : G X σ lv (.int x :: .ref (eT (tE X) 0) :: st) pc := fun H locs ls hW hS hl => va_ti C.1 C.2.1 C.2.2.2.2.2.2.2.1.2.2.2.2.2.1 hS hx rfl hd (kk H locs ls hW hS hl)
theorem gx_gets1 (C : Cx X cc own ret fr lo nL Qc) {idx : Nat} (hd : decode cc pc = .ok (.getstatic idx, 3)) (h1 : Cond.fieldLink own idx "SweetWraps" "MOST_OF_SETTING" "[I" ∈ BIG) (kk : G X σ lv (.ref (eT (tE X) 1) :: st) (pc + 3)) : G X σ lv st pc := fun H locs ls hW hS hl => va_gets C.1 C.2.1 C.2.2.2.2.2.2.2.1.2.2.2.2.2.2.1 hS C.2.2.2.2.1 (C.2.2.2.2.2.2.1 _ h1) (fun _ h => h) hd (kk H locs ls hW hS hl)
theorem gx_getsN1 (C : Cx X cc own ret fr lo nL Qc) {idx : Nat} (hd : decode cc pc = .ok (.getstatic idx, 3)) (h1 : Cond.fieldLinkNest own idx "SweetWraps" "MOST_OF_SETTING" "[I" "SweetWraps" ∈ tables_1) (kk : G X σ lv (.ref (eT (tE X) 1) :: st) (pc + 3)) : G X σ lv st pc := fun H locs ls hW hS hl => va_getsN C.1 C.2.1 C.2.2.2.2.2.2.2.1.2.2.2.2.2.2.1 hS C.2.2.2.2.1 (va_Nw.use rfl (C.2.2.2.2.2.2.2.1.2.2.2.1 _ _ _ _ _ _ h1)) (fun _ h => h) hd (kk H locs ls hW hS hl)
theorem gx_tab1 (C : Cx X cc own ret fr lo nL Qc) {x : Int32} (hx : vp_in x 4) (hd : decode cc pc = .ok (.iaload, 1)) (kk : G X σ lv (.int (mst x.toNatClampNeg) :: st) (pc + 1)) : G X σ lv (.int x :: .ref (eT (tE X) 1) :: st) pc := fun H locs ls hW hS hl => va_ti C.1 C.2.1 C.2.2.2.2.2.2.2.1.2.2.2.2.2.2.2.1 hS hx rfl hd (kk H locs ls hW hS hl)
theorem gx_ldcS (C : Cx X cc own ret fr lo nL Qc) {idx : Nat} (j : Nat) (hj : j < 7) (hi : scI.getD j 0 = idx) (ho : own = "SweetWraps$Pad") (hd : decode cc pc = .ok (.ldc idx, 2)) (kk : G X σ lv (.ref (eK (tE X) j) :: st) (pc + 2)) : G X σ lv st pc := fun H locs ls hW hS hl => va_ldcS (own := "SweetWraps$Pad") (tx := scT.getD j "") C.1 C.2.1 (by rw [← ho]; exact C.2.2.2.2.1) (by rw [← hi]; exact C.2.2.2.2.2.2.2.1.2.2.2.2.2.2.2.2.2.1 j hj) hd (kk H locs ls hW hS hl)
theorem gx_coder (C : Cx X cc own ret fr lo nL Qc) {idx j : Nat} (hj : j < 7) (hw : Cond.fieldLink own idx "java/lang/String" "coder" "B" ∈ BIG) (hd : decode cc pc = .ok (.getfield idx, 3)) (kk : G X σ lv (.int 0 :: st) (pc + 3)) : G X σ lv (.ref (eK (tE X) j) :: st) pc := fun H locs ls hW hS hl => vk_getf C.1 C.2.1 (C.2.2.2.2.2.2.2.1.2.2.2.2.2.2.2.2.1.1 j hj).2.1 hS C.2.2.2.2.1 (C.2.2.2.2.2.2.1 _ hw) (fun _ h => h) hd (kk H locs ls hW hS hl)
theorem gx_value (C : Cx X cc own ret fr lo nL Qc) {idx j : Nat} (hj : j < 7) (hw : Cond.fieldLink own idx "java/lang/String" "value" "[B" ∈ BIG) (hd : decode cc pc = .ok (.getfield idx, 3)) (kk : G X σ lv (.ref (eV (tE X) j) :: st) (pc + 3)) : G X σ lv (.ref (eK (tE X) j) :: st) pc := fun H locs ls hW hS hl => vk_getf C.1 C.2.1 (C.2.2.2.2.2.2.2.1.2.2.2.2.2.2.2.2.1.1 j hj).2.2.1 hS C.2.2.2.2.1 (C.2.2.2.2.2.2.1 _ hw) (fun _ h => h) hd (kk H locs ls hW hS hl)
theorem gx_vlen (C : Cx X cc own ret fr lo nL Qc) {j : Nat} (hj : j < 7) (hd : decode cc pc = .ok (.arraylength, 1)) (kk : G X σ lv (.int (nI (scL.getD j 0)) :: st) (pc + 1)) : G X σ lv (.ref (eV (tE X) j) :: st) pc := fun H locs ls hW hS hl => va_tlen C.1 C.2.1 (C.2.2.2.2.2.2.2.1.2.2.2.2.2.2.2.2.1.1 j hj).2.2.2 hS rfl hd (kk H locs ls hW hS hl)
theorem gx_vald (C : Cx X cc own ret fr lo nL Qc) {j : Nat} (hj : j < 7) {x : Int32} (hx : vp_in x (scL.getD j 0)) (hd : decode cc pc = .ok (.baload, 1)) (kk : G X σ lv (.int ((scB.getD j []).getD x.toNatClampNeg 0) :: st) (pc + 1)) : G X σ lv (.int x :: .ref (eV (tE X) j) :: st) pc := fun H locs ls hW hS hl => va_tb C.1 C.2.1 (C.2.2.2.2.2.2.2.1.2.2.2.2.2.2.2.2.1.1 j hj).2.2.2 hS hx rfl hd (kk H locs ls hW hS hl)
theorem gx_compact (C : Cx X cc own ret fr lo nL Qc) {idx : Nat} (hw : Cond.fieldLink own idx "java/lang/String" "COMPACT_STRINGS" "Z" ∈ BIG) (hd : decode cc pc = .ok (.getstatic idx, 3)) (kk : G X σ lv (.int 1 :: st) (pc + 3)) : G X σ lv st pc := fun H locs ls hW hS hl => va_gets C.1 C.2.1 C.2.2.2.2.2.2.2.1.2.2.2.2.2.2.2.2.2.2.1 hS C.2.2.2.2.1 (C.2.2.2.2.2.2.1 _ hw) (fun _ h => h) hd (kk H locs ls hW hS hl)
end GC
end
section
/-! What the decompiled methods rest on: loops, places, small values, the methods that are walked by hand. -/
/-- a loop, some rounds deep -/
def lpN {α : Type} (F : (α → Prop) → α → Prop) : Nat → α → Prop
  | 0 => fun _ => False
  | n + 1 => F (lpN F n)
theorem lpN_G {α : Type} {F : (α → Prop) → α → Prop} {P : α → Prop} (h : ∀ (K : α → Prop) (a : α), (∀ a', K a' → P a') → F K a → P a) : ∀ (n : Nat) (a : α), lpN F n a → P a := by
  intro n
  induction n with
  | zero => intro a h0; exact h0.elim
  | succ n ih => intro a h1; exact h _ a ih h1
/-- a loop by an invariant and a measure that falls -/
theorem lpN_of {α : Type} {F : (α → Prop) → α → Prop} (J : α → Prop) (μ : α → Nat) (h : ∀ (K : α → Prop) (a : α), J a → (∀ a', J a' → μ a' < μ a → K a') → F K a) : ∀ a, J a → ∃ n, lpN F n a := by
  have key : ∀ (n : Nat) (a : α), J a → μ a < n → lpN F n a := by
    intro n
    induction n with
    | zero => intro a _ h0; exact absurd h0 (Nat.not_lt_zero _)
    | succ n ih => intro a ha hn; exact h _ a ha (fun a' h1 h2 => ih a' h1 (by omega))
  exact fun a ha => ⟨μ a + 1, key _ a ha (Nat.lt_succ_self _)⟩
theorem vp_lt {x : Int32} {n : Nat} (h : vp_in x n) : x.toNatClampNeg < n := Nat.not_le.mp fun q => h (Or.inr q)
theorem nb_bool {x : Int32} (h : x = 0 ∨ x = 1) : narrow .boolean (.int x) = .int x := by rcases h with rfl | rfl <;> rfl
theorem fb_bool {x : Int32} (h : x = 0 ∨ x = 1) : fits .boolean (.int x) = true := by rcases h with rfl | rfl <;> rfl
theorem okg_10 : okc 11 10 0 := ok10 (k := 0) (by decide)
theorem okg_11 : okc 11 11 0 := ok10 (k := 1) (by decide)
theorem okg_12 : okc 11 12 0 := ok10 (k := 2) (by decide)
theorem okg_13 : okc 11 13 0 := ok10 (k := 3) (by decide)
theorem okg_14 : okc 11 14 0 := ok10 (k := 4) (by decide)
theorem okg_15 : okc 11 15 0 := ok10 (k := 5) (by decide)
theorem okg_16 : okc 11 16 0 := ok10 (k := 6) (by decide)
theorem okg_17 : okc 11 17 0 := ok10 (k := 7) (by decide)
theorem okg_18 : okc 12 18 0 := ok18 (k := 0) (by decide)
theorem okg_19 : okc 12 19 0 := ok18 (k := 1) (by decide)
theorem okg_20 : okc 12 20 0 := ok18 (k := 2) (by decide)
theorem okg_21 : okc 12 21 0 := ok18 (k := 3) (by decide)
theorem okg_22 : okc 12 22 0 := ok18 (k := 4) (by decide)
theorem okg_23 : okc 12 23 0 := ok18 (k := 5) (by decide)
theorem okg_24 : okc 12 24 0 := ok18 (k := 6) (by decide)
theorem okg_25 : okc 12 25 0 := ok18 (k := 7) (by decide)
theorem in_big (ws : List Cond) (h : ws.all (fun w => decide (w ∈ tables_1) && goodWord w) = true) : ∀ w ∈ ws, w ∈ BIG := fun w hw => by
  have h1 := List.all_eq_true.mp h w hw
  simp only [Bool.and_eq_true, decide_eq_true_eq] at h1
  exact List.mem_filter.mpr ⟨List.mem_append_right _ h1.1, h1.2⟩
theorem inX0 : ∀ w ∈ u_ws RX0 TX0 3, w ∈ BIG := in_big _ (by decide +kernel)
theorem inX1 : ∀ w ∈ u_ws RX1 TX1 8, w ∈ BIG := in_big _ (by decide +kernel)
theorem inX2 : ∀ w ∈ u_ws RX2 TX2 8, w ∈ BIG := in_big _ (by decide +kernel)
theorem inX3 : ∀ w ∈ u_ws RX3 TX3 6, w ∈ BIG := in_big _ (by decide +kernel)
theorem inX4 : ∀ w ∈ u_ws RX4 TX4 4, w ∈ BIG := in_big _ (by decide +kernel)
theorem inX5 : ∀ w ∈ u_ws RX5 TX5 6, w ∈ BIG := in_big _ (by decide +kernel)
theorem inX6 : ∀ w ∈ u_ws RX6 TX6 11, w ∈ BIG := in_big _ (by decide +kernel)
theorem nest_in (w : Cond) (h : w ∈ tables_1) : w ∈ tables_1 := h
theorem nI_back {m : Nat} (h : m < 11) : (nI m).toNatClampNeg = m := nI_clamp (by omega)
theorem ce_prep (E : Ev) (f : Nat → Int32) {m : Nat} (h : m < 11) : ce E 11 11 0 (upd f 1 (nI m)) = .inr (0, ([.ref (ad E 11 12 0), .ref (ad E (f 1).toNatClampNeg 0 0), .int (f 2)] : List Value).set 1 (.ref (ad E m 0 0))) := by
  show (Sum.inr (0, [.ref (ad E 11 12 0), .ref (ad E (nI m).toNatClampNeg 0 0), .int (f 2)]) : va_E) = _
  rw [nI_back h]
  rfl
section BS
variable {X : Tx} {cc : ByteArray} {own : String} {ret : Option FieldType} {fr lo nL : Nat} {Qc : Array Value → State → Outcome → State → Prop} {σ : Sg} {lv : List (Nat × Value)} {st : List Value} {pc : Nat}
theorem gx_st {σ' : Sg} {m k i j : Nat} {x : Int32} (e : σ' = up σ m k i j x) (kk : G X σ' lv st pc) : G X (ua σ m k i (upd (σ m k i) j x)) lv st pc := by
  subst e
  exact kk
theorem gx_sg {τ σ' : Sg} (e : σ' = τ) (kk : G X σ' lv st pc) : G X τ lv st pc := e ▸ kk
end BS
end
section
/-! Methods walked by hand: copyNumbers, shapeOf, the index checks of the JDK. -/
theorem pk_refl (n : Nat) : (if nI n < nI n then nI n else nI n) = nI n := by split <;> rfl
theorem dX5_copyNumbers_0 : decode cX5_copyNumbers 0 = .ok (.aload_n 0, 1) := by decide +kernel
theorem dX5_copyNumbers_1 : decode cX5_copyNumbers 1 = .ok (.iconst 0, 1) := by decide +kernel
theorem dX5_copyNumbers_2 : decode cX5_copyNumbers 2 = .ok (.aload_n 1, 1) := by decide +kernel
theorem dX5_copyNumbers_3 : decode cX5_copyNumbers 3 = .ok (.iconst 0, 1) := by decide +kernel
theorem dX5_copyNumbers_4 : decode cX5_copyNumbers 4 = .ok (.aload_n 0, 1) := by decide +kernel
theorem dX5_copyNumbers_5 : decode cX5_copyNumbers 5 = .ok (.arraylength, 1) := by decide +kernel
theorem dX5_copyNumbers_6 : decode cX5_copyNumbers 6 = .ok (.aload_n 1, 1) := by decide +kernel
theorem dX5_copyNumbers_7 : decode cX5_copyNumbers 7 = .ok (.arraylength, 1) := by decide +kernel
theorem dX5_copyNumbers_8 : decode cX5_copyNumbers 8 = .ok (.invokestatic 181, 3) := by decide +kernel
theorem dX5_copyNumbers_11 : decode cX5_copyNumbers 11 = .ok (.invokestatic 186, 3) := by decide +kernel
theorem dX5_copyNumbers_14 : decode cX5_copyNumbers 14 = .ok (.return_, 1) := by decide +kernel
set_option maxHeartbeats 4000000 in
theorem c_X5_copyNumbers (l : Launch) (E : Ev) {m1 k i1 m2 i2 : Nat} (ok1 : okc m1 k i1) (ok2 : okc m2 k i2) {n : Nat} (hn : n < 1000) (he : ∀ m i f, ce E k m i f = .inl (eC E 0, n, .inl f)) {σ : Sg} : CT l E yX5_copyNumbers cX5_copyNumbers 2 none 1 60 [.ref (ad E m1 k i1), .ref (ad E m2 k i2)] σ (QV E (fun σ' => σ' = ua σ m2 k i2 (va_cpy (σ m1 k i1) (σ m2 k i2) 0 0 n))) := by
  refine CT_of (by decide) (Nat.le_of_ble_eq_true rfl) (fun X h1 h2 C => ?_)
  subst h1; subst h2
  have C : Cx X cX5_copyNumbers "SweetWraps" none 1 60 2 (QV (tE X) (fun σ' => σ' = ua σ m2 k i2 (va_cpy (σ m1 k i1) (σ m2 k i2) 0 0 n))) := C
  show G X σ [(0, .ref (ad (tE X) m1 k i1)), (1, .ref (ad (tE X) m2 k i2))] [] 0
  refine gx_aload_n C dX5_copyNumbers_0 0 rfl ?_
  refine gx_iconst (v := (0 : Int32)) C dX5_copyNumbers_1 (by decide) ?_
  refine gx_aload_n C dX5_copyNumbers_2 1 rfl ?_
  refine gx_iconst (v := (0 : Int32)) C dX5_copyNumbers_3 (by decide) ?_
  refine gx_aload_n C dX5_copyNumbers_4 0 rfl ?_
  refine gx_alen C ok1 (he _ _ _) (t0 := 0) rfl (v := nI n) rfl dX5_copyNumbers_5 ?_
  refine gx_aload_n C dX5_copyNumbers_6 1 rfl ?_
  refine gx_alen C ok2 (he _ _ _) (t0 := 0) rfl (v := nI n) rfl dX5_copyNumbers_7 ?_
  refine gx_mmin C dX5_copyNumbers_8 bw_205 bw_206 bw_8 bw_207 ⟨by decide, Nat.le_of_ble_eq_true rfl⟩ ?_
  rw [pk_refl]
  have z : (nI n).toNatClampNeg = n := nI_clamp (by omega)
  refine gx_copy C ok1 ok2 (he _ _) (he _ _) (nI_pos (by omega)) (by rw [z]; exact Nat.le_refl _) (by rw [z]; exact Nat.le_refl _) dX5_copyNumbers_11 bw_208 bw_210 bw_209 bw_9 ⟨by decide, by decide⟩ ?_
  rw [z]
  exact gx_vret C dX5_copyNumbers_14 rfl
theorem hyS_X5_copyNumbers : yX5_copyNumbers.cls ≠ "java/lang/invoke/MethodHandle" ∧ yX5_copyNumbers.cls ≠ "java/lang/invoke/VarHandle" ∧ (parseMethodDescriptor yX5_copyNumbers.desc).map (fun d => d.parameters.length) = some 2 := by decide +kernel
theorem dX3_shapeOf_0 : decode cX3_shapeOf 0 = .ok (.iload_n 0, 1) := by decide +kernel
theorem dX3_shapeOf_1 : decode cX3_shapeOf 1 = .ok (.tableswitch 113 97 116 #[107, 113, 113, 113, 113, 98, 113, 95, 113, 113, 113, 113, 113, 113, 113, 113, 113, 110, 104, 101], 95) := by decide +kernel
theorem dX3_shapeOf_96 : decode cX3_shapeOf 96 = .ok (.ldc 79, 2) := by decide +kernel
theorem dX3_shapeOf_98 : decode cX3_shapeOf 98 = .ok (.areturn, 1) := by decide +kernel
theorem dX3_shapeOf_99 : decode cX3_shapeOf 99 = .ok (.ldc 81, 2) := by decide +kernel
theorem dX3_shapeOf_101 : decode cX3_shapeOf 101 = .ok (.areturn, 1) := by decide +kernel
theorem dX3_shapeOf_102 : decode cX3_shapeOf 102 = .ok (.ldc 83, 2) := by decide +kernel
theorem dX3_shapeOf_104 : decode cX3_shapeOf 104 = .ok (.areturn, 1) := by decide +kernel
theorem dX3_shapeOf_105 : decode cX3_shapeOf 105 = .ok (.ldc 85, 2) := by decide +kernel
theorem dX3_shapeOf_107 : decode cX3_shapeOf 107 = .ok (.areturn, 1) := by decide +kernel
theorem dX3_shapeOf_108 : decode cX3_shapeOf 108 = .ok (.ldc 87, 2) := by decide +kernel
theorem dX3_shapeOf_110 : decode cX3_shapeOf 110 = .ok (.areturn, 1) := by decide +kernel
theorem dX3_shapeOf_111 : decode cX3_shapeOf 111 = .ok (.ldc 89, 2) := by decide +kernel
theorem dX3_shapeOf_113 : decode cX3_shapeOf 113 = .ok (.areturn, 1) := by decide +kernel
theorem dX3_shapeOf_114 : decode cX3_shapeOf 114 = .ok (.ldc 91, 2) := by decide +kernel
theorem dX3_shapeOf_116 : decode cX3_shapeOf 116 = .ok (.areturn, 1) := by decide +kernel
def shp (k : Int32) : Nat := if k = 97 then 4 else if k = 102 then 1 else if k = 104 then 0 else if k = 114 then 5 else if k = 115 then 3 else if k = 116 then 2 else 6
theorem shp_lt (k : Int32) : shp k < 7 := by
  unfold shp
  repeat' split
  all_goals decide
section SH
variable {X : Tx} {cc : ByteArray} {own : String} {ret : Option FieldType} {fr lo nL : Nat} {Qc : Array Value → State → Outcome → State → Prop} {σ : Sg} {lv : List (Nat × Value)} {st : List Value} {pc : Nat}
abbrev QS (E : Ev) (σ : Sg) (j : Nat) : Array Value → State → Outcome → State → Prop := va_Qr (fun u : Sg => u = σ) (fun u a t => a = eK E j ∧ WD E u t.heap) (eA E)
theorem gx_aretS {j0 : Nat} (C : Cx X cc own (some (.object "java/lang/String")) fr lo nL (QS (tE X) σ j0)) {j : Nat} (e : j = j0) (hd : decode cc pc = .ok (.areturn, 1)) : G X σ lv [.ref (eK (tE X) j)] pc := by
  intro H locs ls hW hS hl
  subst e
  unfold GH
  rw [C.2.2.2.2.2.2.2.2.2.2]
  exact W.aret C.1 C.2.1 C.2.2.1 (Or.inl ⟨_, rfl⟩) (Or.inr ⟨_, rfl⟩) (fun t ht hWm => ⟨⟨σ, _, rfl, rfl, rfl, by show WD (tE X) σ t.heap; rw [ht]; exact hW⟩, hS.F ht⟩) hS.2.2 hd C.2.2.2.2.2.1
set_option maxHeartbeats 4000000 in
theorem c_X3_shapeOf (l : Launch) (E : Ev) {x : Int32} {σ : Sg} : CT l E yX3_shapeOf cX3_shapeOf 1 (some (.object "java/lang/String")) 0 0 [.int x] σ (QS E σ (shp x)) := by
  refine CT_of (by decide) (Nat.le_of_ble_eq_true rfl) (fun X h1 h2 C => ?_)
  subst h1; subst h2
  have C : Cx X cX3_shapeOf "SweetWraps$Pad" (some (.object "java/lang/String")) 0 0 1 (QS (tE X) σ (shp x)) := C
  show G X σ [(0, .int x)] [] 0
  refine gx_iload_n C dX3_shapeOf_0 0 rfl ?_
  by_cases c0 : x = (97 : Int32)
  · refine gx_table (tgt := 108) (off := 107) C dX3_shapeOf_1 (97 : Int32) c0 (by decide) (by decide) rfl (by decide) ?_
    refine gx_ldcS C 4 (by decide) rfl rfl dX3_shapeOf_108 ?_
    exact gx_aretS C (by rw [c0]; rfl) dX3_shapeOf_110
  · skip
    by_cases c1 : x = (102 : Int32)
    · refine gx_table (tgt := 99) (off := 98) C dX3_shapeOf_1 (102 : Int32) c1 (by decide) (by decide) rfl (by decide) ?_
      refine gx_ldcS C 1 (by decide) rfl rfl dX3_shapeOf_99 ?_
      exact gx_aretS C (by rw [c1]; rfl) dX3_shapeOf_101
    · skip
      by_cases c2 : x = (104 : Int32)
      · refine gx_table (tgt := 96) (off := 95) C dX3_shapeOf_1 (104 : Int32) c2 (by decide) (by decide) rfl (by decide) ?_
        refine gx_ldcS C 0 (by decide) rfl rfl dX3_shapeOf_96 ?_
        exact gx_aretS C (by rw [c2]; rfl) dX3_shapeOf_98
      · skip
        by_cases c3 : x = (114 : Int32)
        · refine gx_table (tgt := 111) (off := 110) C dX3_shapeOf_1 (114 : Int32) c3 (by decide) (by decide) rfl (by decide) ?_
          refine gx_ldcS C 5 (by decide) rfl rfl dX3_shapeOf_111 ?_
          exact gx_aretS C (by rw [c3]; rfl) dX3_shapeOf_113
        · skip
          by_cases c4 : x = (115 : Int32)
          · refine gx_table (tgt := 105) (off := 104) C dX3_shapeOf_1 (115 : Int32) c4 (by decide) (by decide) rfl (by decide) ?_
            refine gx_ldcS C 3 (by decide) rfl rfl dX3_shapeOf_105 ?_
            exact gx_aretS C (by rw [c4]; rfl) dX3_shapeOf_107
          · skip
            by_cases c5 : x = (116 : Int32)
            · refine gx_table (tgt := 102) (off := 101) C dX3_shapeOf_1 (116 : Int32) c5 (by decide) (by decide) rfl (by decide) ?_
              refine gx_ldcS C 2 (by decide) rfl rfl dX3_shapeOf_102 ?_
              exact gx_aretS C (by rw [c5]; rfl) dX3_shapeOf_104
            · skip
              refine gx_tableD (tgt := 114) C dX3_shapeOf_1 (by decide) [((107 : Int), (0 : Nat)), ((113 : Int), (1 : Nat)), ((113 : Int), (2 : Nat)), ((113 : Int), (3 : Nat)), ((113 : Int), (4 : Nat)), ((98 : Int), (5 : Nat)), ((113 : Int), (6 : Nat)), ((95 : Int), (7 : Nat)), ((113 : Int), (8 : Nat)), ((113 : Int), (9 : Nat)), ((113 : Int), (10 : Nat)), ((113 : Int), (11 : Nat)), ((113 : Int), (12 : Nat)), ((113 : Int), (13 : Nat)), ((113 : Int), (14 : Nat)), ((113 : Int), (15 : Nat)), ((113 : Int), (16 : Nat)), ((110 : Int), (17 : Nat)), ((104 : Int), (18 : Nat)), ((101 : Int), (19 : Nat))] rfl (List.forall_mem_cons.mpr ⟨Or.inr ⟨(97 : Int32), c0, by decide⟩, List.forall_mem_cons.mpr ⟨Or.inl rfl, List.forall_mem_cons.mpr ⟨Or.inl rfl, List.forall_mem_cons.mpr ⟨Or.inl rfl, List.forall_mem_cons.mpr ⟨Or.inl rfl, List.forall_mem_cons.mpr ⟨Or.inr ⟨(102 : Int32), c1, by decide⟩, List.forall_mem_cons.mpr ⟨Or.inl rfl, List.forall_mem_cons.mpr ⟨Or.inr ⟨(104 : Int32), c2, by decide⟩, List.forall_mem_cons.mpr ⟨Or.inl rfl, List.forall_mem_cons.mpr ⟨Or.inl rfl, List.forall_mem_cons.mpr ⟨Or.inl rfl, List.forall_mem_cons.mpr ⟨Or.inl rfl, List.forall_mem_cons.mpr ⟨Or.inl rfl, List.forall_mem_cons.mpr ⟨Or.inl rfl, List.forall_mem_cons.mpr ⟨Or.inl rfl, List.forall_mem_cons.mpr ⟨Or.inl rfl, List.forall_mem_cons.mpr ⟨Or.inl rfl, List.forall_mem_cons.mpr ⟨Or.inr ⟨(114 : Int32), c3, by decide⟩, List.forall_mem_cons.mpr ⟨Or.inr ⟨(115 : Int32), c4, by decide⟩, List.forall_mem_cons.mpr ⟨Or.inr ⟨(116 : Int32), c5, by decide⟩, fun _ h => absurd h List.not_mem_nil⟩⟩⟩⟩⟩⟩⟩⟩⟩⟩⟩⟩⟩⟩⟩⟩⟩⟩⟩⟩) (by decide) ?_
              refine gx_ldcS C 6 (by decide) rfl rfl dX3_shapeOf_114 ?_
              exact gx_aretS C (by simp only [shp, if_neg c0, if_neg c1, if_neg c2, if_neg c3, if_neg c4, if_neg c5]) dX3_shapeOf_116
theorem hyS_X3_shapeOf : yX3_shapeOf.cls ≠ "java/lang/invoke/MethodHandle" ∧ yX3_shapeOf.cls ≠ "java/lang/invoke/VarHandle" ∧ (parseMethodDescriptor yX3_shapeOf.desc).map (fun d => d.parameters.length) = some 1 := by decide +kernel
theorem gx_shapeOf (C : Cx X cc "SweetWraps$Pad" ret fr lo nL Qc) {x : Int32} {j idx : Nat} (hd : decode cc pc = .ok (.invokestatic idx, 3)) (h1 : Cond.methodLink "SweetWraps$Pad" idx yX3_shapeOf ∈ BIG) (ej : j = shp x) (hR : 0 + 1 ≤ fr ∧ 8 + (1 + 11) + 0 ≤ lo) (kk : G X σ lv [.ref (eK (tE X) j)] (pc + 3)) : G X σ lv [.int x] pc := by
  intro H locs ls hW hS hl
  subst ej
  exact va_callr (va_runS (As := [.int x]) (rest := []) ⟨C.1, C.2.1, C.2.2.2.1, C.2.2.2.2.1, C.2.2.2.2.2.2.1⟩ (c_X3_shapeOf (tL X) (tE X)) (va_cwS 1 C.2.2.2.2.2.2.1 (big_wsS h1 bw_554 bw_6 (big_code bw_555)) rfl rfl rfl hyS_X3_shapeOf (by rw [C.2.2.2.2.2.2.2.2.1]; exact hR)) ⟨big_blind, big_pre C hW hS⟩ rfl rfl hl.1 rfl (lv_room (Nat.le_of_ble_eq_true rfl)) hd ⟨Nat.zero_le _, Nat.zero_le _⟩) hS (fun q _ h => h) (fun q h => h) (fun u ra t H1 locs1 ht hvm hw hB hz1 hk1 hS1 => by
    obtain ⟨e1, e2⟩ := hB
    subst e1
    subst hw
    exact kk H1 locs1 ls (by rw [← ht]; exact e2) hS1 hl)
theorem gx_tableD_ok : True := trivial
end SH
theorem dJ3_checkIndex_8e157_0 : decode cJ3_checkIndex_8e157 0 = .ok (.iload_n 0, 1) := by decide +kernel
theorem dJ3_checkIndex_8e157_1 : decode cJ3_checkIndex_8e157 1 = .ok (.ifCond .lt 8, 3) := by decide +kernel
theorem dJ3_checkIndex_8e157_4 : decode cJ3_checkIndex_8e157 4 = .ok (.iload_n 0, 1) := by decide +kernel
theorem dJ3_checkIndex_8e157_5 : decode cJ3_checkIndex_8e157 5 = .ok (.iload_n 1, 1) := by decide +kernel
theorem dJ3_checkIndex_8e157_6 : decode cJ3_checkIndex_8e157 6 = .ok (.if_icmp .lt 10, 3) := by decide +kernel
theorem dJ3_checkIndex_8e157_16 : decode cJ3_checkIndex_8e157 16 = .ok (.iload_n 0, 1) := by decide +kernel
theorem dJ3_checkIndex_8e157_17 : decode cJ3_checkIndex_8e157 17 = .ok (.ireturn, 1) := by decide +kernel
theorem dJ0_checkIndex_df160_0 : decode cJ0_checkIndex_df160 0 = .ok (.iload_n 0, 1) := by decide +kernel
theorem dJ0_checkIndex_df160_1 : decode cJ0_checkIndex_df160 1 = .ok (.iload_n 1, 1) := by decide +kernel
theorem dJ0_checkIndex_df160_2 : decode cJ0_checkIndex_df160 2 = .ok (.getstatic 1053, 3) := by decide +kernel
theorem dJ0_checkIndex_df160_5 : decode cJ0_checkIndex_df160 5 = .ok (.invokestatic 1059, 3) := by decide +kernel
theorem dJ0_checkIndex_df160_8 : decode cJ0_checkIndex_df160 8 = .ok (.pop, 1) := by decide +kernel
theorem dJ0_checkIndex_df160_9 : decode cJ0_checkIndex_df160 9 = .ok (.return_, 1) := by decide +kernel
set_option maxHeartbeats 4000000 in
theorem c_J3_checkIndex (l : Launch) (E : Ev) {x0 x1 : Int32} {f : Option Nat} {σ : Sg} {Q : Int32 → Sg → Prop} (h0 : ¬ x0 < 0) (h1 : x0 < x1) (hw : Q x0 σ) : CT l E yJ3_checkIndex_8e157 cJ3_checkIndex_8e157 3 (some .int) 0 0 [.int x0, .int x1, va_rf f] σ (QI E Q) := by
  have hcat : (lg_sl [.int x0, .int x1, va_rf f]).length ≤ 3 := by cases f <;> exact Nat.le_of_ble_eq_true rfl
  refine CT_of (by decide) hcat (fun X h2 h3 C => ?_)
  subst h2; subst h3
  have C : Cx X cJ3_checkIndex_8e157 "jdk/internal/util/Preconditions" (some .int) 0 0 3 (QI (tE X) Q) := C
  have e : lv_args 0 [.int x0, .int x1, va_rf f] = [(0, .int x0), (1, .int x1), (2, va_rf f)] := by cases f <;> rfl
  rw [e]
  refine gx_iload_n C dJ3_checkIndex_8e157_0 0 rfl ?_
  refine gx_if_lt (tgt := 9) C dJ3_checkIndex_8e157_1 (by decide) (fun c => ?_) (fun c => ?_)
  · exact absurd c h0
  · refine gx_iload_n C dJ3_checkIndex_8e157_4 0 rfl ?_
    refine gx_iload_n C dJ3_checkIndex_8e157_5 1 rfl ?_
    refine gx_icmp_lt (tgt := 16) C dJ3_checkIndex_8e157_6 (by decide) (fun c => ?_) (fun c => ?_)
    · refine gx_iload_n C dJ3_checkIndex_8e157_16 0 rfl ?_
      exact gx_iret C rfl rfl dJ3_checkIndex_8e157_17 hw
    · exact absurd h1 c
theorem hyS_J3_checkIndex : yJ3_checkIndex_8e157.cls ≠ "java/lang/invoke/MethodHandle" ∧ yJ3_checkIndex_8e157.cls ≠ "java/lang/invoke/VarHandle" ∧ (parseMethodDescriptor yJ3_checkIndex_8e157.desc).map (fun d => d.parameters.length) = some 3 := by decide +kernel
section SI
variable {X : Tx} {cc : ByteArray} {own : String} {ret : Option FieldType} {fr lo nL : Nat} {Qc : Array Value → State → Outcome → State → Prop} {σ : Sg} {lv : List (Nat × Value)} {st : List Value} {pc : Nat}
theorem gx_sioobe (C : Cx X cc own ret fr lo nL Qc) {idx : Nat} (hw : Cond.fieldLink own idx "jdk/internal/util/Preconditions" "SIOOBE_FORMATTER" "Ljava/util/function/BiFunction;" ∈ BIG) (hd : decode cc pc = .ok (.getstatic idx, 3)) (kk : ∀ f : Option Nat, G X σ lv (va_rf f :: st) (pc + 3)) : G X σ lv st pc := by
  intro H locs ls hW hS hl
  rcases C.2.2.2.2.2.2.2.1.2.2.2.2.2.2.2.2.2.2.2 with h | ⟨t, h⟩
  · exact va_gets C.1 C.2.1 h hS C.2.2.2.2.1 (C.2.2.2.2.2.2.1 _ hw) (fun _ h => h) hd (kk none H locs ls hW hS hl)
  · exact va_gets C.1 C.2.1 h hS C.2.2.2.2.1 (C.2.2.2.2.2.2.1 _ hw) (fun _ h => h) hd (kk (some t) H locs ls hW hS hl)
end SI
def wp_J0_checkIndex_df160 (x0 x1 : Int32) (σ : Sg) (Q : Sg → Prop) : Prop := ¬ x0 < 0 ∧ x0 < x1 ∧ Q σ
set_option maxHeartbeats 4000000 in
theorem c_J0_checkIndex_df160 (l : Launch) (E : Ev) {x0 x1 : Int32} {σ : Sg} {Q : Sg → Prop} (hw : wp_J0_checkIndex_df160 x0 x1 σ Q) : CT l E yJ0_checkIndex_df160 cJ0_checkIndex_df160 2 none 1 60 [.int x0, .int x1] σ (QV E Q) := by
  refine CT_of (by decide) (Nat.le_of_ble_eq_true rfl) (fun X h1 h2 C => ?_)
  subst h1; subst h2
  have C : Cx X cJ0_checkIndex_df160 "java/lang/String" none 1 60 2 (QV (tE X) Q) := C
  show G X σ [(0, .int x0), (1, .int x1)] [] 0
  refine gx_iload_n C dJ0_checkIndex_df160_0 0 rfl ?_
  refine gx_iload_n C dJ0_checkIndex_df160_1 1 rfl ?_
  refine gx_sioobe C bw_587 dJ0_checkIndex_df160_2 (fun f => ?_)
  refine gx_scalli (As := [.int x0, .int x1, va_rf f]) (rest := []) C (c_J3_checkIndex (Q := fun _ σ' => σ' = σ) _ _ hw.1 hw.2.1 rfl) bw_589 bw_590 bw_12 bw_591 hyS_J3_checkIndex ⟨by decide, by decide⟩ rfl (Nat.le_of_ble_eq_true rfl) dJ0_checkIndex_df160_5 (fun r σ' h => ?_)
  subst h
  refine gx_pop C dJ0_checkIndex_df160_8 rfl ?_
  exact gx_vret C dJ0_checkIndex_df160_9 hw.2.2
theorem hyS_J0_checkIndex_df160 : yJ0_checkIndex_df160.cls ≠ "java/lang/invoke/MethodHandle" ∧ yJ0_checkIndex_df160.cls ≠ "java/lang/invoke/VarHandle" ∧ (parseMethodDescriptor yJ0_checkIndex_df160.desc).map (fun d => d.parameters.length) = some 2 := by decide +kernel
section SM
variable {X : Tx} {cc : ByteArray} {own : String} {ret : Option FieldType} {fr lo nL : Nat} {Qc : Array Value → State → Outcome → State → Prop} {σ : Sg} {lv : List (Nat × Value)} {st : List Value} {pc : Nat}
theorem ce_row (E : Ev) (f : Nat → Int32) {mm : Nat} (hm : mm < 11) (j : Nat) : (.inl (eC E 5, 6, .inr (.inr (.inr (.inr (va_up (fun q => some (ad E (f q).toNatClampNeg 0 0)) j (some (ad E mm 0 0)))))) ) : va_E) = ce E 12 11 0 (upd f j (nI mm)) := by
  have h : va_up (fun q => some (ad E (f q).toNatClampNeg 0 0)) j (some (ad E mm 0 0)) = fun q => some (ad E (upd f j (nI mm) q).toNatClampNeg 0 0) := by
    funext q
    by_cases hq : q = j
    · subst hq
      simp only [va_up, upd, if_true]
      rw [nI_back hm]
    · simp only [va_up, upd, if_neg hq]
  rw [h]
  rfl
theorem gx_aastM (C : Cx X cc own ret fr lo nL Qc) {mm : Nat} (hm : mm < 11) {x : Int32} (hx : vp_in x 6) (j : Nat) (hj : x.toNatClampNeg = j) (hd : decode cc pc = .ok (.aastore, 1)) (kk : G X (ua σ 11 12 0 (upd (σ 11 12 0) j (nI mm))) lv st (pc + 1)) : G X σ lv (.ref (ad (tE X) mm 0 0) :: .int x :: .ref (ad (tE X) 11 12 0) :: st) pc := by
  intro H locs ls hW hS hl
  obtain ⟨q, hq, hwl⟩ := wl_at (tE X) σ okg_12
  obtain ⟨qk, hqk, hwk⟩ := wl_at (tE X) σ (ok0 hm)
  refine va_astq C.1 C.2.1 C.2.2.2.2.2.2.2.1.1 hW (wl_D _ _ C.2.2.2.2.2.2.2.1.2.1) hS q 5 qk 2 (n := 6) (f := fun q => some (ad (tE X) (σ 11 12 0 q).toNatClampNeg 0 0)) (r := (RX2, TX2, 8)) hwl rfl hwk rfl hx hd (fun H1 locs1 hP1 hD1 hS1 => ?_)
  rw [hj, ce_row _ _ hm, wl_set _ _ hq] at hP1
  exact kk H1 locs1 ls hP1 hS1 hl
end SM
end
section
theorem dX1_copyFrom_0 : decode cX1_copyFrom 0 = .ok (.aload_n 1, 1) := by decide +kernel
theorem dX1_copyFrom_1 : decode cX1_copyFrom 1 = .ok (.getfield 9, 3) := by decide +kernel
theorem dX1_copyFrom_4 : decode cX1_copyFrom 4 = .ok (.aload_n 0, 1) := by decide +kernel
theorem dX1_copyFrom_5 : decode cX1_copyFrom 5 = .ok (.getfield 9, 3) := by decide +kernel
theorem dX1_copyFrom_8 : decode cX1_copyFrom 8 = .ok (.invokestatic 18, 3) := by decide +kernel
theorem dX1_copyFrom_11 : decode cX1_copyFrom 11 = .ok (.aload_n 1, 1) := by decide +kernel
theorem dX1_copyFrom_12 : decode cX1_copyFrom 12 = .ok (.getfield 15, 3) := by decide +kernel
theorem dX1_copyFrom_15 : decode cX1_copyFrom 15 = .ok (.aload_n 0, 1) := by decide +kernel
theorem dX1_copyFrom_16 : decode cX1_copyFrom 16 = .ok (.getfield 15, 3) := by decide +kernel
theorem dX1_copyFrom_19 : decode cX1_copyFrom 19 = .ok (.invokestatic 18, 3) := by decide +kernel
theorem dX1_copyFrom_22 : decode cX1_copyFrom 22 = .ok (.aload_n 0, 1) := by decide +kernel
theorem dX1_copyFrom_23 : decode cX1_copyFrom 23 = .ok (.aload_n 1, 1) := by decide +kernel
theorem dX1_copyFrom_24 : decode cX1_copyFrom 24 = .ok (.getfield 22, 3) := by decide +kernel
theorem dX1_copyFrom_27 : decode cX1_copyFrom 27 = .ok (.putfield 22, 3) := by decide +kernel
theorem dX1_copyFrom_30 : decode cX1_copyFrom 30 = .ok (.aload_n 0, 1) := by decide +kernel
theorem dX1_copyFrom_31 : decode cX1_copyFrom 31 = .ok (.aload_n 1, 1) := by decide +kernel
theorem dX1_copyFrom_32 : decode cX1_copyFrom 32 = .ok (.getfield 26, 3) := by decide +kernel
theorem dX1_copyFrom_35 : decode cX1_copyFrom 35 = .ok (.putfield 26, 3) := by decide +kernel
theorem dX1_copyFrom_38 : decode cX1_copyFrom 38 = .ok (.aload_n 0, 1) := by decide +kernel
theorem dX1_copyFrom_39 : decode cX1_copyFrom 39 = .ok (.aload_n 1, 1) := by decide +kernel
theorem dX1_copyFrom_40 : decode cX1_copyFrom 40 = .ok (.getfield 29, 3) := by decide +kernel
theorem dX1_copyFrom_43 : decode cX1_copyFrom 43 = .ok (.putfield 29, 3) := by decide +kernel
theorem dX1_copyFrom_46 : decode cX1_copyFrom 46 = .ok (.aload_n 0, 1) := by decide +kernel
theorem dX1_copyFrom_47 : decode cX1_copyFrom 47 = .ok (.aload_n 1, 1) := by decide +kernel
theorem dX1_copyFrom_48 : decode cX1_copyFrom 48 = .ok (.getfield 32, 3) := by decide +kernel
theorem dX1_copyFrom_51 : decode cX1_copyFrom 51 = .ok (.putfield 32, 3) := by decide +kernel
theorem dX1_copyFrom_54 : decode cX1_copyFrom 54 = .ok (.aload_n 0, 1) := by decide +kernel
theorem dX1_copyFrom_55 : decode cX1_copyFrom 55 = .ok (.aload_n 1, 1) := by decide +kernel
theorem dX1_copyFrom_56 : decode cX1_copyFrom 56 = .ok (.getfield 35, 3) := by decide +kernel
theorem dX1_copyFrom_59 : decode cX1_copyFrom 59 = .ok (.putfield 35, 3) := by decide +kernel
theorem dX1_copyFrom_62 : decode cX1_copyFrom 62 = .ok (.return_, 1) := by decide +kernel
def wp_X1_copyFrom (m : Nat) (i : Nat) (m1 : Nat) (i1 : Nat) (σ : Sg) (Q : Sg → Prop) : Prop := ∀ σ1 : Sg, σ1 = ua σ m 6 i (va_cpy (σ m1 6 i1) (σ m 6 i) 0 0 6) → ∀ σ2 : Sg, σ2 = ua σ1 m 7 i (va_cpy (σ1 m1 7 i1) (σ1 m 7 i) 0 0 6) → ∀ σ3 : Sg, σ3 = up σ2 m 5 i 2 (σ2 m1 5 i1 2) → ∀ σ4 : Sg, σ4 = up σ3 m 5 i 3 (σ3 m1 5 i1 3) → ∀ σ5 : Sg, σ5 = up σ4 m 5 i 4 (σ4 m1 5 i1 4) → ∀ σ6 : Sg, σ6 = up σ5 m 5 i 5 (σ5 m1 5 i1 5) → ∀ σ7 : Sg, σ7 = up σ6 m 5 i 6 (σ6 m1 5 i1 6) → Q σ7
set_option maxRecDepth 100000 in
set_option maxHeartbeats 4000000 in
theorem c_X1_copyFrom (l : Launch) (E : Ev) {m : Nat} {i : Nat} {m1 : Nat} {i1 : Nat} (hm : m < 11) (hi : i < 4) (hm1 : m1 < 11) (hi1 : i1 < 4) {σ : Sg} {Q : Sg → Prop} (hw : wp_X1_copyFrom m i m1 i1 σ Q) : CT l E yX1_copyFrom cX1_copyFrom 2 none 2 81 [.ref (ad E m 5 i), .ref (ad E m1 5 i1)] σ (QV E Q) := by
  refine CT_of (by decide) (Nat.le_of_ble_eq_true rfl) (fun X h1 h2 C => ?_)
  subst h1; subst h2
  have C : Cx X cX1_copyFrom "SweetWraps$Lane" none 2 81 2 (QV (tE X) Q) := C
  show G X σ [(0, .ref (ad (tE X) m 5 i)), (1, .ref (ad (tE X) m1 5 i1))] [] 0
  unfold wp_X1_copyFrom at hw
  refine gx_aload_n C dX1_copyFrom_0 1 rfl ?_
  refine gx_get C (ok5 hm1 hi1) rfl rfl inX1 (ref := "SweetWraps$Lane") 0 (by decide) bw_37 rfl rfl dX1_copyFrom_1 ?_
  refine gx_aload_n C dX1_copyFrom_4 0 rfl ?_
  refine gx_get C (ok5 hm hi) rfl rfl inX1 (ref := "SweetWraps$Lane") 0 (by decide) bw_37 rfl rfl dX1_copyFrom_5 ?_
  refine gx_ncallv (As := [.ref (ad (tE X) m1 6 i1), .ref (ad (tE X) m 6 i)]) (rest := []) (host := "SweetWraps") C (c_X5_copyNumbers _ _ (ok6 hm1 hi1) (ok6 hm hi) (n := 6) (by decide) (fun _ _ _ => rfl)) (nest_in _ (by decide +kernel)) bw_203 bw_1 bw_204 hyS_X5_copyNumbers ⟨by decide, by decide⟩ rfl (Nat.le_of_ble_eq_true rfl) dX1_copyFrom_8 (fun σ9 h9 => ?_)
  subst h9
  obtain ⟨σ1, e_σ1⟩ : ∃ z : Sg, z = ua σ m 6 i (va_cpy (σ m1 6 i1) (σ m 6 i) 0 0 6) := ⟨_, rfl⟩
  replace hw := hw σ1 e_σ1
  refine gx_sg e_σ1 ?_
  refine gx_aload_n C dX1_copyFrom_11 1 rfl ?_
  refine gx_get C (ok5 hm1 hi1) rfl rfl inX1 (ref := "SweetWraps$Lane") 1 (by decide) bw_39 rfl rfl dX1_copyFrom_12 ?_
  refine gx_aload_n C dX1_copyFrom_15 0 rfl ?_
  refine gx_get C (ok5 hm hi) rfl rfl inX1 (ref := "SweetWraps$Lane") 1 (by decide) bw_39 rfl rfl dX1_copyFrom_16 ?_
  refine gx_ncallv (As := [.ref (ad (tE X) m1 7 i1), .ref (ad (tE X) m 7 i)]) (rest := []) (host := "SweetWraps") C (c_X5_copyNumbers _ _ (ok7 hm1 hi1) (ok7 hm hi) (n := 6) (by decide) (fun _ _ _ => rfl)) (nest_in _ (by decide +kernel)) bw_203 bw_1 bw_204 hyS_X5_copyNumbers ⟨by decide, by decide⟩ rfl (Nat.le_of_ble_eq_true rfl) dX1_copyFrom_19 (fun σ9 h9 => ?_)
  subst h9
  obtain ⟨σ2, e_σ2⟩ : ∃ z : Sg, z = ua σ1 m 7 i (va_cpy (σ1 m1 7 i1) (σ1 m 7 i) 0 0 6) := ⟨_, rfl⟩
  replace hw := hw σ2 e_σ2
  refine gx_sg e_σ2 ?_
  refine gx_aload_n C dX1_copyFrom_22 0 rfl ?_
  refine gx_aload_n C dX1_copyFrom_23 1 rfl ?_
  refine gx_get C (ok5 hm1 hi1) rfl rfl inX1 (ref := "SweetWraps$Lane") 2 (by decide) bw_41 rfl rfl dX1_copyFrom_24 ?_
  refine gx_put C (ok5 hm hi) rfl rfl inX1 tyX1 tyX1_ok nmX1 (ref := "SweetWraps$Lane") 2 (by decide) bw_41 rfl rfl (v := .int (σ2 m1 5 i1 2)) rfl rfl (Nat.le_of_ble_eq_true rfl) (upd (σ2 m 5 i) 2 (σ2 m1 5 i1 2)) rfl dX1_copyFrom_27 ?_
  obtain ⟨σ3, e_σ3⟩ : ∃ z : Sg, z = up σ2 m 5 i 2 (σ2 m1 5 i1 2) := ⟨_, rfl⟩
  replace hw := hw σ3 e_σ3
  refine gx_st e_σ3 ?_
  refine gx_aload_n C dX1_copyFrom_30 0 rfl ?_
  refine gx_aload_n C dX1_copyFrom_31 1 rfl ?_
  refine gx_get C (ok5 hm1 hi1) rfl rfl inX1 (ref := "SweetWraps$Lane") 3 (by decide) bw_43 rfl rfl dX1_copyFrom_32 ?_
  refine gx_put C (ok5 hm hi) rfl rfl inX1 tyX1 tyX1_ok nmX1 (ref := "SweetWraps$Lane") 3 (by decide) bw_43 rfl rfl (v := .int (σ3 m1 5 i1 3)) rfl rfl (Nat.le_of_ble_eq_true rfl) (upd (σ3 m 5 i) 3 (σ3 m1 5 i1 3)) rfl dX1_copyFrom_35 ?_
  obtain ⟨σ4, e_σ4⟩ : ∃ z : Sg, z = up σ3 m 5 i 3 (σ3 m1 5 i1 3) := ⟨_, rfl⟩
  replace hw := hw σ4 e_σ4
  refine gx_st e_σ4 ?_
  refine gx_aload_n C dX1_copyFrom_38 0 rfl ?_
  refine gx_aload_n C dX1_copyFrom_39 1 rfl ?_
  refine gx_get C (ok5 hm1 hi1) rfl rfl inX1 (ref := "SweetWraps$Lane") 4 (by decide) bw_45 rfl rfl dX1_copyFrom_40 ?_
  refine gx_put C (ok5 hm hi) rfl rfl inX1 tyX1 tyX1_ok nmX1 (ref := "SweetWraps$Lane") 4 (by decide) bw_45 rfl rfl (v := .int (σ4 m1 5 i1 4)) rfl rfl (Nat.le_of_ble_eq_true rfl) (upd (σ4 m 5 i) 4 (σ4 m1 5 i1 4)) rfl dX1_copyFrom_43 ?_
  obtain ⟨σ5, e_σ5⟩ : ∃ z : Sg, z = up σ4 m 5 i 4 (σ4 m1 5 i1 4) := ⟨_, rfl⟩
  replace hw := hw σ5 e_σ5
  refine gx_st e_σ5 ?_
  refine gx_aload_n C dX1_copyFrom_46 0 rfl ?_
  refine gx_aload_n C dX1_copyFrom_47 1 rfl ?_
  refine gx_get C (ok5 hm1 hi1) rfl rfl inX1 (ref := "SweetWraps$Lane") 5 (by decide) bw_47 rfl rfl dX1_copyFrom_48 ?_
  refine gx_put C (ok5 hm hi) rfl rfl inX1 tyX1 tyX1_ok nmX1 (ref := "SweetWraps$Lane") 5 (by decide) bw_47 rfl rfl (v := .int (σ5 m1 5 i1 5)) rfl rfl (Nat.le_of_ble_eq_true rfl) (upd (σ5 m 5 i) 5 (σ5 m1 5 i1 5)) rfl dX1_copyFrom_51 ?_
  obtain ⟨σ6, e_σ6⟩ : ∃ z : Sg, z = up σ5 m 5 i 5 (σ5 m1 5 i1 5) := ⟨_, rfl⟩
  replace hw := hw σ6 e_σ6
  refine gx_st e_σ6 ?_
  refine gx_aload_n C dX1_copyFrom_54 0 rfl ?_
  refine gx_aload_n C dX1_copyFrom_55 1 rfl ?_
  refine gx_get C (ok5 hm1 hi1) rfl rfl inX1 (ref := "SweetWraps$Lane") 6 (by decide) bw_49 rfl rfl dX1_copyFrom_56 ?_
  refine gx_put C (ok5 hm hi) rfl rfl inX1 tyX1 tyX1_ok nmX1 (ref := "SweetWraps$Lane") 6 (by decide) bw_49 rfl rfl (v := .int (σ6 m1 5 i1 6)) rfl rfl (Nat.le_of_ble_eq_true rfl) (upd (σ6 m 5 i) 6 (σ6 m1 5 i1 6)) rfl dX1_copyFrom_59 ?_
  obtain ⟨σ7, e_σ7⟩ : ∃ z : Sg, z = up σ6 m 5 i 6 (σ6 m1 5 i1 6) := ⟨_, rfl⟩
  replace hw := hw σ7 e_σ7
  refine gx_st e_σ7 ?_
  exact gx_vret C dX1_copyFrom_62 hw
theorem hy_X1_copyFrom : yX1_copyFrom.cls = "SweetWraps$Lane" ∧ yX1_copyFrom.cls ≠ "java/lang/invoke/MethodHandle" ∧ yX1_copyFrom.cls ≠ "java/lang/invoke/VarHandle" ∧ (parseMethodDescriptor yX1_copyFrom.desc).map (fun d => d.parameters.length) = some 1 := by decide +kernel

theorem dX4_copyFrom_0 : decode cX4_copyFrom 0 = .ok (.aload_n 1, 1) := by decide +kernel
theorem dX4_copyFrom_1 : decode cX4_copyFrom 1 = .ok (.getfield 9, 3) := by decide +kernel
theorem dX4_copyFrom_4 : decode cX4_copyFrom 4 = .ok (.aload_n 0, 1) := by decide +kernel
theorem dX4_copyFrom_5 : decode cX4_copyFrom 5 = .ok (.getfield 9, 3) := by decide +kernel
theorem dX4_copyFrom_8 : decode cX4_copyFrom 8 = .ok (.invokestatic 15, 3) := by decide +kernel
theorem dX4_copyFrom_11 : decode cX4_copyFrom 11 = .ok (.aload_n 0, 1) := by decide +kernel
theorem dX4_copyFrom_12 : decode cX4_copyFrom 12 = .ok (.aload_n 1, 1) := by decide +kernel
theorem dX4_copyFrom_13 : decode cX4_copyFrom 13 = .ok (.getfield 19, 3) := by decide +kernel
theorem dX4_copyFrom_16 : decode cX4_copyFrom 16 = .ok (.putfield 19, 3) := by decide +kernel
theorem dX4_copyFrom_19 : decode cX4_copyFrom 19 = .ok (.aload_n 0, 1) := by decide +kernel
theorem dX4_copyFrom_20 : decode cX4_copyFrom 20 = .ok (.aload_n 1, 1) := by decide +kernel
theorem dX4_copyFrom_21 : decode cX4_copyFrom 21 = .ok (.getfield 23, 3) := by decide +kernel
theorem dX4_copyFrom_24 : decode cX4_copyFrom 24 = .ok (.putfield 23, 3) := by decide +kernel
theorem dX4_copyFrom_27 : decode cX4_copyFrom 27 = .ok (.aload_n 0, 1) := by decide +kernel
theorem dX4_copyFrom_28 : decode cX4_copyFrom 28 = .ok (.aload_n 1, 1) := by decide +kernel
theorem dX4_copyFrom_29 : decode cX4_copyFrom 29 = .ok (.getfield 26, 3) := by decide +kernel
theorem dX4_copyFrom_32 : decode cX4_copyFrom 32 = .ok (.putfield 26, 3) := by decide +kernel
theorem dX4_copyFrom_35 : decode cX4_copyFrom 35 = .ok (.return_, 1) := by decide +kernel
def wp_X4_copyFrom (m : Nat) (i : Nat) (m1 : Nat) (i1 : Nat) (σ : Sg) (Q : Sg → Prop) : Prop := ∀ σ1 : Sg, σ1 = ua σ m 9 i (va_cpy (σ m1 9 i1) (σ m 9 i) 0 0 6) → ∀ σ2 : Sg, σ2 = up σ1 m 8 i 1 (σ1 m1 8 i1 1) → ∀ σ3 : Sg, σ3 = up σ2 m 8 i 2 (σ2 m1 8 i1 2) → (((σ3 m1 8 i1 3) = 0 ∨ (σ3 m1 8 i1 3) = 1) ∧ ∀ σ5 : Sg, σ5 = up σ3 m 8 i 3 (σ3 m1 8 i1 3) → Q σ5)
set_option maxRecDepth 100000 in
set_option maxHeartbeats 4000000 in
theorem c_X4_copyFrom (l : Launch) (E : Ev) {m : Nat} {i : Nat} {m1 : Nat} {i1 : Nat} (hm : m < 11) (hi : i < 16) (hm1 : m1 < 11) (hi1 : i1 < 16) {σ : Sg} {Q : Sg → Prop} (hw : wp_X4_copyFrom m i m1 i1 σ Q) : CT l E yX4_copyFrom cX4_copyFrom 2 none 2 81 [.ref (ad E m 8 i), .ref (ad E m1 8 i1)] σ (QV E Q) := by
  refine CT_of (by decide) (Nat.le_of_ble_eq_true rfl) (fun X h1 h2 C => ?_)
  subst h1; subst h2
  have C : Cx X cX4_copyFrom "SweetWraps$Tin" none 2 81 2 (QV (tE X) Q) := C
  show G X σ [(0, .ref (ad (tE X) m 8 i)), (1, .ref (ad (tE X) m1 8 i1))] [] 0
  unfold wp_X4_copyFrom at hw
  refine gx_aload_n C dX4_copyFrom_0 1 rfl ?_
  refine gx_get C (ok8 hm1 hi1) rfl rfl inX4 (ref := "SweetWraps$Tin") 0 (by decide) bw_76 rfl rfl dX4_copyFrom_1 ?_
  refine gx_aload_n C dX4_copyFrom_4 0 rfl ?_
  refine gx_get C (ok8 hm hi) rfl rfl inX4 (ref := "SweetWraps$Tin") 0 (by decide) bw_76 rfl rfl dX4_copyFrom_5 ?_
  refine gx_ncallv (As := [.ref (ad (tE X) m1 9 i1), .ref (ad (tE X) m 9 i)]) (rest := []) (host := "SweetWraps") C (c_X5_copyNumbers _ _ (ok9 hm1 hi1) (ok9 hm hi) (n := 6) (by decide) (fun _ _ _ => rfl)) (nest_in _ (by decide +kernel)) bw_203 bw_1 bw_204 hyS_X5_copyNumbers ⟨by decide, by decide⟩ rfl (Nat.le_of_ble_eq_true rfl) dX4_copyFrom_8 (fun σ9 h9 => ?_)
  subst h9
  obtain ⟨σ1, e_σ1⟩ : ∃ z : Sg, z = ua σ m 9 i (va_cpy (σ m1 9 i1) (σ m 9 i) 0 0 6) := ⟨_, rfl⟩
  replace hw := hw σ1 e_σ1
  refine gx_sg e_σ1 ?_
  refine gx_aload_n C dX4_copyFrom_11 0 rfl ?_
  refine gx_aload_n C dX4_copyFrom_12 1 rfl ?_
  refine gx_get C (ok8 hm1 hi1) rfl rfl inX4 (ref := "SweetWraps$Tin") 1 (by decide) bw_78 rfl rfl dX4_copyFrom_13 ?_
  refine gx_put C (ok8 hm hi) rfl rfl inX4 tyX4 tyX4_ok nmX4 (ref := "SweetWraps$Tin") 1 (by decide) bw_78 rfl rfl (v := .int (σ1 m1 8 i1 1)) rfl rfl (Nat.le_of_ble_eq_true rfl) (upd (σ1 m 8 i) 1 (σ1 m1 8 i1 1)) rfl dX4_copyFrom_16 ?_
  obtain ⟨σ2, e_σ2⟩ : ∃ z : Sg, z = up σ1 m 8 i 1 (σ1 m1 8 i1 1) := ⟨_, rfl⟩
  replace hw := hw σ2 e_σ2
  refine gx_st e_σ2 ?_
  refine gx_aload_n C dX4_copyFrom_19 0 rfl ?_
  refine gx_aload_n C dX4_copyFrom_20 1 rfl ?_
  refine gx_get C (ok8 hm1 hi1) rfl rfl inX4 (ref := "SweetWraps$Tin") 2 (by decide) bw_80 rfl rfl dX4_copyFrom_21 ?_
  refine gx_put C (ok8 hm hi) rfl rfl inX4 tyX4 tyX4_ok nmX4 (ref := "SweetWraps$Tin") 2 (by decide) bw_80 rfl rfl (v := .int (σ2 m1 8 i1 2)) rfl rfl (Nat.le_of_ble_eq_true rfl) (upd (σ2 m 8 i) 2 (σ2 m1 8 i1 2)) rfl dX4_copyFrom_24 ?_
  obtain ⟨σ3, e_σ3⟩ : ∃ z : Sg, z = up σ2 m 8 i 2 (σ2 m1 8 i1 2) := ⟨_, rfl⟩
  replace hw := hw σ3 e_σ3
  refine gx_st e_σ3 ?_
  refine gx_aload_n C dX4_copyFrom_27 0 rfl ?_
  refine gx_aload_n C dX4_copyFrom_28 1 rfl ?_
  refine gx_get C (ok8 hm1 hi1) rfl rfl inX4 (ref := "SweetWraps$Tin") 3 (by decide) bw_82 rfl rfl dX4_copyFrom_29 ?_
  have hb4 := hw.1
  replace hw := hw.2
  refine gx_put C (ok8 hm hi) rfl rfl inX4 tyX4 tyX4_ok nmX4 (ref := "SweetWraps$Tin") 3 (by decide) bw_82 rfl rfl (v := .int (σ3 m1 8 i1 3)) (nb_bool hb4) (fb_bool hb4) (Nat.le_of_ble_eq_true rfl) (upd (σ3 m 8 i) 3 (σ3 m1 8 i1 3)) rfl dX4_copyFrom_32 ?_
  obtain ⟨σ5, e_σ5⟩ : ∃ z : Sg, z = up σ3 m 8 i 3 (σ3 m1 8 i1 3) := ⟨_, rfl⟩
  replace hw := hw σ5 e_σ5
  refine gx_st e_σ5 ?_
  exact gx_vret C dX4_copyFrom_35 hw
theorem hy_X4_copyFrom : yX4_copyFrom.cls = "SweetWraps$Tin" ∧ yX4_copyFrom.cls ≠ "java/lang/invoke/MethodHandle" ∧ yX4_copyFrom.cls ≠ "java/lang/invoke/VarHandle" ∧ (parseMethodDescriptor yX4_copyFrom.desc).map (fun d => d.parameters.length) = some 1 := by decide +kernel

theorem dX2_copyFrom_0 : decode cX2_copyFrom 0 = .ok (.aload_n 1, 1) := by decide +kernel
theorem dX2_copyFrom_1 : decode cX2_copyFrom 1 = .ok (.getfield 9, 3) := by decide +kernel
theorem dX2_copyFrom_4 : decode cX2_copyFrom 4 = .ok (.aload_n 0, 1) := by decide +kernel
theorem dX2_copyFrom_5 : decode cX2_copyFrom 5 = .ok (.getfield 9, 3) := by decide +kernel
theorem dX2_copyFrom_8 : decode cX2_copyFrom 8 = .ok (.invokestatic 32, 3) := by decide +kernel
theorem dX2_copyFrom_11 : decode cX2_copyFrom 11 = .ok (.aload_n 1, 1) := by decide +kernel
theorem dX2_copyFrom_12 : decode cX2_copyFrom 12 = .ok (.getfield 27, 3) := by decide +kernel
theorem dX2_copyFrom_15 : decode cX2_copyFrom 15 = .ok (.aload_n 0, 1) := by decide +kernel
theorem dX2_copyFrom_16 : decode cX2_copyFrom 16 = .ok (.getfield 27, 3) := by decide +kernel
theorem dX2_copyFrom_19 : decode cX2_copyFrom 19 = .ok (.invokestatic 32, 3) := by decide +kernel
theorem dX2_copyFrom_22 : decode cX2_copyFrom 22 = .ok (.iconst 0, 1) := by decide +kernel
theorem dX2_copyFrom_23 : decode cX2_copyFrom 23 = .ok (.istore_n 2, 1) := by decide +kernel
theorem dX2_copyFrom_24 : decode cX2_copyFrom 24 = .ok (.iload_n 2, 1) := by decide +kernel
theorem dX2_copyFrom_25 : decode cX2_copyFrom 25 = .ok (.iconst 4, 1) := by decide +kernel
theorem dX2_copyFrom_26 : decode cX2_copyFrom 26 = .ok (.if_icmp .ge 24, 3) := by decide +kernel
theorem dX2_copyFrom_29 : decode cX2_copyFrom 29 = .ok (.aload_n 0, 1) := by decide +kernel
theorem dX2_copyFrom_30 : decode cX2_copyFrom 30 = .ok (.getfield 17, 3) := by decide +kernel
theorem dX2_copyFrom_33 : decode cX2_copyFrom 33 = .ok (.iload_n 2, 1) := by decide +kernel
theorem dX2_copyFrom_34 : decode cX2_copyFrom 34 = .ok (.aaload, 1) := by decide +kernel
theorem dX2_copyFrom_35 : decode cX2_copyFrom 35 = .ok (.aload_n 1, 1) := by decide +kernel
theorem dX2_copyFrom_36 : decode cX2_copyFrom 36 = .ok (.getfield 17, 3) := by decide +kernel
theorem dX2_copyFrom_39 : decode cX2_copyFrom 39 = .ok (.iload_n 2, 1) := by decide +kernel
theorem dX2_copyFrom_40 : decode cX2_copyFrom 40 = .ok (.aaload, 1) := by decide +kernel
theorem dX2_copyFrom_41 : decode cX2_copyFrom 41 = .ok (.invokevirtual 36, 3) := by decide +kernel
theorem dX2_copyFrom_44 : decode cX2_copyFrom 44 = .ok (.iinc 2 1, 3) := by decide +kernel
theorem dX2_copyFrom_47 : decode cX2_copyFrom 47 = .ok (.goto (-23), 3) := by decide +kernel
theorem dX2_copyFrom_50 : decode cX2_copyFrom 50 = .ok (.iconst 0, 1) := by decide +kernel
theorem dX2_copyFrom_51 : decode cX2_copyFrom 51 = .ok (.istore_n 2, 1) := by decide +kernel
theorem dX2_copyFrom_52 : decode cX2_copyFrom 52 = .ok (.iload_n 2, 1) := by decide +kernel
theorem dX2_copyFrom_53 : decode cX2_copyFrom 53 = .ok (.bipush 16, 2) := by decide +kernel
theorem dX2_copyFrom_55 : decode cX2_copyFrom 55 = .ok (.if_icmp .ge 24, 3) := by decide +kernel
theorem dX2_copyFrom_58 : decode cX2_copyFrom 58 = .ok (.aload_n 0, 1) := by decide +kernel
theorem dX2_copyFrom_59 : decode cX2_copyFrom 59 = .ok (.getfield 23, 3) := by decide +kernel
theorem dX2_copyFrom_62 : decode cX2_copyFrom 62 = .ok (.iload_n 2, 1) := by decide +kernel
theorem dX2_copyFrom_63 : decode cX2_copyFrom 63 = .ok (.aaload, 1) := by decide +kernel
theorem dX2_copyFrom_64 : decode cX2_copyFrom 64 = .ok (.aload_n 1, 1) := by decide +kernel
theorem dX2_copyFrom_65 : decode cX2_copyFrom 65 = .ok (.getfield 23, 3) := by decide +kernel
theorem dX2_copyFrom_68 : decode cX2_copyFrom 68 = .ok (.iload_n 2, 1) := by decide +kernel
theorem dX2_copyFrom_69 : decode cX2_copyFrom 69 = .ok (.aaload, 1) := by decide +kernel
theorem dX2_copyFrom_70 : decode cX2_copyFrom 70 = .ok (.invokevirtual 40, 3) := by decide +kernel
theorem dX2_copyFrom_73 : decode cX2_copyFrom 73 = .ok (.iinc 2 1, 3) := by decide +kernel
theorem dX2_copyFrom_76 : decode cX2_copyFrom 76 = .ok (.goto (-24), 3) := by decide +kernel
theorem dX2_copyFrom_79 : decode cX2_copyFrom 79 = .ok (.aload_n 0, 1) := by decide +kernel
theorem dX2_copyFrom_80 : decode cX2_copyFrom 80 = .ok (.aload_n 1, 1) := by decide +kernel
theorem dX2_copyFrom_81 : decode cX2_copyFrom 81 = .ok (.getfield 43, 3) := by decide +kernel
theorem dX2_copyFrom_84 : decode cX2_copyFrom 84 = .ok (.putfield 43, 3) := by decide +kernel
theorem dX2_copyFrom_87 : decode cX2_copyFrom 87 = .ok (.aload_n 0, 1) := by decide +kernel
theorem dX2_copyFrom_88 : decode cX2_copyFrom 88 = .ok (.aload_n 1, 1) := by decide +kernel
theorem dX2_copyFrom_89 : decode cX2_copyFrom 89 = .ok (.getfield 47, 3) := by decide +kernel
theorem dX2_copyFrom_92 : decode cX2_copyFrom 92 = .ok (.putfield 47, 3) := by decide +kernel
theorem dX2_copyFrom_95 : decode cX2_copyFrom 95 = .ok (.aload_n 0, 1) := by decide +kernel
theorem dX2_copyFrom_96 : decode cX2_copyFrom 96 = .ok (.aload_n 1, 1) := by decide +kernel
theorem dX2_copyFrom_97 : decode cX2_copyFrom 97 = .ok (.getfield 50, 3) := by decide +kernel
theorem dX2_copyFrom_100 : decode cX2_copyFrom 100 = .ok (.putfield 50, 3) := by decide +kernel
theorem dX2_copyFrom_103 : decode cX2_copyFrom 103 = .ok (.aload_n 0, 1) := by decide +kernel
theorem dX2_copyFrom_104 : decode cX2_copyFrom 104 = .ok (.aload_n 1, 1) := by decide +kernel
theorem dX2_copyFrom_105 : decode cX2_copyFrom 105 = .ok (.getfield 53, 3) := by decide +kernel
theorem dX2_copyFrom_108 : decode cX2_copyFrom 108 = .ok (.putfield 53, 3) := by decide +kernel
theorem dX2_copyFrom_111 : decode cX2_copyFrom 111 = .ok (.return_, 1) := by decide +kernel
def st_X2_copyFrom_L52 (m : Nat) (m1 : Nat) (Q : Sg → Prop) (K52 : Int32 → Sg → Prop) (v2 : Int32) (σ : Sg) : Prop := (((16 : Int32) ≤ v2 → ∀ σ11 : Sg, σ11 = up σ m 0 0 4 (σ m1 0 0 4) → ∀ σ12 : Sg, σ12 = up σ11 m 0 0 5 (σ11 m1 0 0 5) → ∀ σ13 : Sg, σ13 = up σ12 m 0 0 6 (σ12 m1 0 0 6) → ∀ σ14 : Sg, σ14 = up σ13 m 0 0 7 (σ13 m1 0 0 7) → Q σ14) ∧ (¬ (16 : Int32) ≤ v2 → (vp_in v2 16 ∧ ∀ a16 : Nat, a16 = v2.toNatClampNeg → (vp_in v2 16 ∧ ∀ a18 : Nat, a18 = v2.toNatClampNeg → wp_X4_copyFrom m a16 m1 a18 σ (fun σ19 => ∀ z20 : Int32, z20 = v2 + (1 : Int32) → K52 z20 σ19)))))
def wp_X2_copyFrom_L52 (m : Nat) (m1 : Nat) (Q : Sg → Prop) (v2 : Int32) (σ : Sg) : Prop := ∃ n : Nat, lpN (fun (K : Int32 × Sg → Prop) (a : Int32 × Sg) => st_X2_copyFrom_L52 m m1 Q (fun v2 σ => K (v2, σ)) (a.1) (a.2)) n (v2, σ)
set_option maxRecDepth 100000 in
set_option maxHeartbeats 4000000 in
theorem gs_X2_copyFrom_L52 {X : Tx} {Q : Sg → Prop} (C : Cx X cX2_copyFrom "SweetWraps$Machine" none 3 102 3 (QV (tE X) Q)) {m : Nat} {m1 : Nat} (hm : m < 11) (hm1 : m1 < 11) {K52 : Int32 → Sg → Prop} (hK52 : ∀ (v2 : Int32) (σ : Sg), K52 v2 σ → G X σ [(0, .ref (ad (tE X) m 0 0)), (1, .ref (ad (tE X) m1 0 0)), (2, .int v2)] [] 52) {v2 : Int32} {σ : Sg} (hw : st_X2_copyFrom_L52 m m1 Q K52 v2 σ) : G X σ [(0, .ref (ad (tE X) m 0 0)), (1, .ref (ad (tE X) m1 0 0)), (2, .int v2)] [] 52 := by
  unfold st_X2_copyFrom_L52 at hw
  refine gx_iload_n C dX2_copyFrom_52 2 rfl ?_
  refine gx_bipush (v := (16 : Int32)) C dX2_copyFrom_53 (by decide) ?_
  refine gx_icmp_ge (tgt := 79) C dX2_copyFrom_55 (by decide) (fun c10 => ?_) (fun c10 => ?_)
  · replace hw := hw.1 c10
    refine gx_aload_n C dX2_copyFrom_79 0 rfl ?_
    refine gx_aload_n C dX2_copyFrom_80 1 rfl ?_
    refine gx_get C (ok0 hm1) rfl rfl inX2 (ref := "SweetWraps$Machine") 4 (by decide) bw_99 rfl rfl dX2_copyFrom_81 ?_
    refine gx_put C (ok0 hm) rfl rfl inX2 tyX2 tyX2_ok nmX2 (ref := "SweetWraps$Machine") 4 (by decide) bw_99 rfl rfl (v := .int (σ m1 0 0 4)) rfl rfl (Nat.le_of_ble_eq_true rfl) (upd (σ m 0 0) 4 (σ m1 0 0 4)) rfl dX2_copyFrom_84 ?_
    obtain ⟨σ11, e_σ11⟩ : ∃ z : Sg, z = up σ m 0 0 4 (σ m1 0 0 4) := ⟨_, rfl⟩
    replace hw := hw σ11 e_σ11
    refine gx_st e_σ11 ?_
    refine gx_aload_n C dX2_copyFrom_87 0 rfl ?_
    refine gx_aload_n C dX2_copyFrom_88 1 rfl ?_
    refine gx_get C (ok0 hm1) rfl rfl inX2 (ref := "SweetWraps$Machine") 5 (by decide) bw_101 rfl rfl dX2_copyFrom_89 ?_
    refine gx_put C (ok0 hm) rfl rfl inX2 tyX2 tyX2_ok nmX2 (ref := "SweetWraps$Machine") 5 (by decide) bw_101 rfl rfl (v := .int (σ11 m1 0 0 5)) rfl rfl (Nat.le_of_ble_eq_true rfl) (upd (σ11 m 0 0) 5 (σ11 m1 0 0 5)) rfl dX2_copyFrom_92 ?_
    obtain ⟨σ12, e_σ12⟩ : ∃ z : Sg, z = up σ11 m 0 0 5 (σ11 m1 0 0 5) := ⟨_, rfl⟩
    replace hw := hw σ12 e_σ12
    refine gx_st e_σ12 ?_
    refine gx_aload_n C dX2_copyFrom_95 0 rfl ?_
    refine gx_aload_n C dX2_copyFrom_96 1 rfl ?_
    refine gx_get C (ok0 hm1) rfl rfl inX2 (ref := "SweetWraps$Machine") 6 (by decide) bw_102 rfl rfl dX2_copyFrom_97 ?_
    refine gx_put C (ok0 hm) rfl rfl inX2 tyX2 tyX2_ok nmX2 (ref := "SweetWraps$Machine") 6 (by decide) bw_102 rfl rfl (v := .int (σ12 m1 0 0 6)) rfl rfl (Nat.le_of_ble_eq_true rfl) (upd (σ12 m 0 0) 6 (σ12 m1 0 0 6)) rfl dX2_copyFrom_100 ?_
    obtain ⟨σ13, e_σ13⟩ : ∃ z : Sg, z = up σ12 m 0 0 6 (σ12 m1 0 0 6) := ⟨_, rfl⟩
    replace hw := hw σ13 e_σ13
    refine gx_st e_σ13 ?_
    refine gx_aload_n C dX2_copyFrom_103 0 rfl ?_
    refine gx_aload_n C dX2_copyFrom_104 1 rfl ?_
    refine gx_get C (ok0 hm1) rfl rfl inX2 (ref := "SweetWraps$Machine") 7 (by decide) bw_103 rfl rfl dX2_copyFrom_105 ?_
    refine gx_put C (ok0 hm) rfl rfl inX2 tyX2 tyX2_ok nmX2 (ref := "SweetWraps$Machine") 7 (by decide) bw_103 rfl rfl (v := .int (σ13 m1 0 0 7)) rfl rfl (Nat.le_of_ble_eq_true rfl) (upd (σ13 m 0 0) 7 (σ13 m1 0 0 7)) rfl dX2_copyFrom_108 ?_
    obtain ⟨σ14, e_σ14⟩ : ∃ z : Sg, z = up σ13 m 0 0 7 (σ13 m1 0 0 7) := ⟨_, rfl⟩
    replace hw := hw σ14 e_σ14
    refine gx_st e_σ14 ?_
    exact gx_vret C dX2_copyFrom_111 hw
  · replace hw := hw.2 c10
    refine gx_aload_n C dX2_copyFrom_58 0 rfl ?_
    refine gx_get C (ok0 hm) rfl rfl inX2 (ref := "SweetWraps$Machine") 2 (by decide) bw_97 rfl rfl dX2_copyFrom_59 ?_
    refine gx_iload_n C dX2_copyFrom_62 2 rfl ?_
    have h15 := hw.1
    replace hw := hw.2
    obtain ⟨a16, e_a16⟩ : ∃ z : Nat, z = v2.toNatClampNeg := ⟨_, rfl⟩
    replace hw := hw a16 e_a16
    have ha16 : a16 < 16 := by rw [e_a16]; exact vp_lt h15
    refine gx_aald C (ok3 hm) rfl (t0 := 4) rfl h15 (v := .ref (ad (tE X) m 8 a16)) (by rw [e_a16]; rfl) dX2_copyFrom_63 ?_
    refine gx_aload_n C dX2_copyFrom_64 1 rfl ?_
    refine gx_get C (ok0 hm1) rfl rfl inX2 (ref := "SweetWraps$Machine") 2 (by decide) bw_97 rfl rfl dX2_copyFrom_65 ?_
    refine gx_iload_n C dX2_copyFrom_68 2 rfl ?_
    have h17 := hw.1
    replace hw := hw.2
    obtain ⟨a18, e_a18⟩ : ∃ z : Nat, z = v2.toNatClampNeg := ⟨_, rfl⟩
    replace hw := hw a18 e_a18
    have ha18 : a18 < 16 := by rw [e_a18]; exact vp_lt h17
    refine gx_aald C (ok3 hm1) rfl (t0 := 4) rfl h17 (v := .ref (ad (tE X) m1 8 a18)) (by rw [e_a18]; rfl) dX2_copyFrom_69 ?_
    refine gx_vcallv (As := [.ref (ad (tE X) m1 8 a18)]) (rest := []) C (c_X4_copyFrom _ _ hm ha16 hm1 ha18 hw) (ok8 hm ha16) rfl rfl bw_216 bw_217 bw_218 bw_4 bw_219 hy_X4_copyFrom ⟨by decide, by decide⟩ rfl (Nat.le_of_ble_eq_true rfl) dX2_copyFrom_70 (fun σ19 hw => ?_)
    obtain ⟨z20, e_z20⟩ : ∃ z : Int32, z = v2 + (1 : Int32) := ⟨_, rfl⟩
    replace hw := hw z20 e_z20
    refine gx_iinc (v := z20) (lv' := [(2, .int z20), (0, .ref (ad (tE X) m 0 0)), (1, .ref (ad (tE X) m1 0 0))]) C dX2_copyFrom_73 2 rfl (by rw [e_z20]; rfl) (by decide) rfl ?_
    refine gx_goto (tgt := 52) C dX2_copyFrom_76 (by decide) ?_
    refine gx_sub (lv' := [(0, .ref (ad (tE X) m 0 0)), (1, .ref (ad (tE X) m1 0 0)), (2, .int z20)]) [1, 2, 0] rfl ?_
    exact hK52 _ _ hw
set_option maxRecDepth 100000 in
set_option maxHeartbeats 4000000 in
theorem g_X2_copyFrom_L52 {X : Tx} {Q : Sg → Prop} (C : Cx X cX2_copyFrom "SweetWraps$Machine" none 3 102 3 (QV (tE X) Q)) {m : Nat} {m1 : Nat} (hm : m < 11) (hm1 : m1 < 11) {v2 : Int32} {σ : Sg} (hw : wp_X2_copyFrom_L52 m m1 Q v2 σ) : G X σ [(0, .ref (ad (tE X) m 0 0)), (1, .ref (ad (tE X) m1 0 0)), (2, .int v2)] [] 52 := by
  obtain ⟨n, hw⟩ := hw
  exact lpN_G (P := (fun (a : Int32 × Sg) => G X (a.2) [(0, .ref (ad (tE X) m 0 0)), (1, .ref (ad (tE X) m1 0 0)), (2, .int (a.1))] [] 52)) (fun K a hK h => gs_X2_copyFrom_L52 C hm hm1 (fun v2 σ h => hK (v2, σ) h) h) n _ hw
def st_X2_copyFrom_L24 (m : Nat) (m1 : Nat) (Q : Sg → Prop) (K24 : Int32 → Sg → Prop) (v2 : Int32) (σ : Sg) : Prop := (((4 : Int32) ≤ v2 → wp_X2_copyFrom_L52 m m1 Q (0 : Int32) σ) ∧ (¬ (4 : Int32) ≤ v2 → (vp_in v2 4 ∧ ∀ a5 : Nat, a5 = v2.toNatClampNeg → (vp_in v2 4 ∧ ∀ a7 : Nat, a7 = v2.toNatClampNeg → wp_X1_copyFrom m a5 m1 a7 σ (fun σ8 => ∀ z9 : Int32, z9 = v2 + (1 : Int32) → K24 z9 σ8)))))
def wp_X2_copyFrom_L24 (m : Nat) (m1 : Nat) (Q : Sg → Prop) (v2 : Int32) (σ : Sg) : Prop := ∃ n : Nat, lpN (fun (K : Int32 × Sg → Prop) (a : Int32 × Sg) => st_X2_copyFrom_L24 m m1 Q (fun v2 σ => K (v2, σ)) (a.1) (a.2)) n (v2, σ)
set_option maxRecDepth 100000 in
set_option maxHeartbeats 4000000 in
theorem gs_X2_copyFrom_L24 {X : Tx} {Q : Sg → Prop} (C : Cx X cX2_copyFrom "SweetWraps$Machine" none 3 102 3 (QV (tE X) Q)) {m : Nat} {m1 : Nat} (hm : m < 11) (hm1 : m1 < 11) {K24 : Int32 → Sg → Prop} (hK24 : ∀ (v2 : Int32) (σ : Sg), K24 v2 σ → G X σ [(0, .ref (ad (tE X) m 0 0)), (1, .ref (ad (tE X) m1 0 0)), (2, .int v2)] [] 24) {v2 : Int32} {σ : Sg} (hw : st_X2_copyFrom_L24 m m1 Q K24 v2 σ) : G X σ [(0, .ref (ad (tE X) m 0 0)), (1, .ref (ad (tE X) m1 0 0)), (2, .int v2)] [] 24 := by
  unfold st_X2_copyFrom_L24 at hw
  refine gx_iload_n C dX2_copyFrom_24 2 rfl ?_
  refine gx_iconst (v := (4 : Int32)) C dX2_copyFrom_25 (by decide) ?_
  refine gx_icmp_ge (tgt := 50) C dX2_copyFrom_26 (by decide) (fun c3 => ?_) (fun c3 => ?_)
  · replace hw := hw.1 c3
    refine gx_iconst (v := (0 : Int32)) C dX2_copyFrom_50 (by decide) ?_
    refine gx_istore_n (lv' := [(2, .int (0 : Int32)), (0, .ref (ad (tE X) m 0 0)), (1, .ref (ad (tE X) m1 0 0))]) C dX2_copyFrom_51 (by decide) rfl ?_
    refine gx_sub (lv' := [(0, .ref (ad (tE X) m 0 0)), (1, .ref (ad (tE X) m1 0 0)), (2, .int (0 : Int32))]) [1, 2, 0] rfl ?_
    exact g_X2_copyFrom_L52 C hm hm1 hw
  · replace hw := hw.2 c3
    refine gx_aload_n C dX2_copyFrom_29 0 rfl ?_
    refine gx_get C (ok0 hm) rfl rfl inX2 (ref := "SweetWraps$Machine") 1 (by decide) bw_95 rfl rfl dX2_copyFrom_30 ?_
    refine gx_iload_n C dX2_copyFrom_33 2 rfl ?_
    have h4 := hw.1
    replace hw := hw.2
    obtain ⟨a5, e_a5⟩ : ∃ z : Nat, z = v2.toNatClampNeg := ⟨_, rfl⟩
    replace hw := hw a5 e_a5
    have ha5 : a5 < 4 := by rw [e_a5]; exact vp_lt h4
    refine gx_aald C (ok2 hm) rfl (t0 := 3) rfl h4 (v := .ref (ad (tE X) m 5 a5)) (by rw [e_a5]; rfl) dX2_copyFrom_34 ?_
    refine gx_aload_n C dX2_copyFrom_35 1 rfl ?_
    refine gx_get C (ok0 hm1) rfl rfl inX2 (ref := "SweetWraps$Machine") 1 (by decide) bw_95 rfl rfl dX2_copyFrom_36 ?_
    refine gx_iload_n C dX2_copyFrom_39 2 rfl ?_
    have h6 := hw.1
    replace hw := hw.2
    obtain ⟨a7, e_a7⟩ : ∃ z : Nat, z = v2.toNatClampNeg := ⟨_, rfl⟩
    replace hw := hw a7 e_a7
    have ha7 : a7 < 4 := by rw [e_a7]; exact vp_lt h6
    refine gx_aald C (ok2 hm1) rfl (t0 := 3) rfl h6 (v := .ref (ad (tE X) m1 5 a7)) (by rw [e_a7]; rfl) dX2_copyFrom_40 ?_
    refine gx_vcallv (As := [.ref (ad (tE X) m1 5 a7)]) (rest := []) C (c_X1_copyFrom _ _ hm ha5 hm1 ha7 hw) (ok5 hm ha5) rfl rfl bw_211 bw_212 bw_213 bw_3 bw_214 hy_X1_copyFrom ⟨by decide, by decide⟩ rfl (Nat.le_of_ble_eq_true rfl) dX2_copyFrom_41 (fun σ8 hw => ?_)
    obtain ⟨z9, e_z9⟩ : ∃ z : Int32, z = v2 + (1 : Int32) := ⟨_, rfl⟩
    replace hw := hw z9 e_z9
    refine gx_iinc (v := z9) (lv' := [(2, .int z9), (0, .ref (ad (tE X) m 0 0)), (1, .ref (ad (tE X) m1 0 0))]) C dX2_copyFrom_44 2 rfl (by rw [e_z9]; rfl) (by decide) rfl ?_
    refine gx_goto (tgt := 24) C dX2_copyFrom_47 (by decide) ?_
    refine gx_sub (lv' := [(0, .ref (ad (tE X) m 0 0)), (1, .ref (ad (tE X) m1 0 0)), (2, .int z9)]) [1, 2, 0] rfl ?_
    exact hK24 _ _ hw
set_option maxRecDepth 100000 in
set_option maxHeartbeats 4000000 in
theorem g_X2_copyFrom_L24 {X : Tx} {Q : Sg → Prop} (C : Cx X cX2_copyFrom "SweetWraps$Machine" none 3 102 3 (QV (tE X) Q)) {m : Nat} {m1 : Nat} (hm : m < 11) (hm1 : m1 < 11) {v2 : Int32} {σ : Sg} (hw : wp_X2_copyFrom_L24 m m1 Q v2 σ) : G X σ [(0, .ref (ad (tE X) m 0 0)), (1, .ref (ad (tE X) m1 0 0)), (2, .int v2)] [] 24 := by
  obtain ⟨n, hw⟩ := hw
  exact lpN_G (P := (fun (a : Int32 × Sg) => G X (a.2) [(0, .ref (ad (tE X) m 0 0)), (1, .ref (ad (tE X) m1 0 0)), (2, .int (a.1))] [] 24)) (fun K a hK h => gs_X2_copyFrom_L24 C hm hm1 (fun v2 σ h => hK (v2, σ) h) h) n _ hw
def wp_X2_copyFrom (m : Nat) (m1 : Nat) (σ : Sg) (Q : Sg → Prop) : Prop := ∀ σ1 : Sg, σ1 = ua σ m 1 0 (va_cpy (σ m1 1 0) (σ m 1 0) 0 0 4) → ∀ σ2 : Sg, σ2 = ua σ1 m 4 0 (va_cpy (σ1 m1 4 0) (σ1 m 4 0) 0 0 6) → wp_X2_copyFrom_L24 m m1 Q (0 : Int32) σ2
set_option maxRecDepth 100000 in
set_option maxHeartbeats 4000000 in
theorem c_X2_copyFrom (l : Launch) (E : Ev) {m : Nat} {m1 : Nat} (hm : m < 11) (hm1 : m1 < 11) {σ : Sg} {Q : Sg → Prop} (hw : wp_X2_copyFrom m m1 σ Q) : CT l E yX2_copyFrom cX2_copyFrom 3 none 3 102 [.ref (ad E m 0 0), .ref (ad E m1 0 0)] σ (QV E Q) := by
  refine CT_of (by decide) (Nat.le_of_ble_eq_true rfl) (fun X h1 h2 C => ?_)
  subst h1; subst h2
  have C : Cx X cX2_copyFrom "SweetWraps$Machine" none 3 102 3 (QV (tE X) Q) := C
  show G X σ [(0, .ref (ad (tE X) m 0 0)), (1, .ref (ad (tE X) m1 0 0))] [] 0
  unfold wp_X2_copyFrom at hw
  refine gx_aload_n C dX2_copyFrom_0 1 rfl ?_
  refine gx_get C (ok0 hm1) rfl rfl inX2 (ref := "SweetWraps$Machine") 0 (by decide) bw_93 rfl rfl dX2_copyFrom_1 ?_
  refine gx_aload_n C dX2_copyFrom_4 0 rfl ?_
  refine gx_get C (ok0 hm) rfl rfl inX2 (ref := "SweetWraps$Machine") 0 (by decide) bw_93 rfl rfl dX2_copyFrom_5 ?_
  refine gx_ncallv (As := [.ref (ad (tE X) m1 1 0), .ref (ad (tE X) m 1 0)]) (rest := []) (host := "SweetWraps") C (c_X5_copyNumbers _ _ (ok1 hm1) (ok1 hm) (n := 4) (by decide) (fun _ _ _ => rfl)) (nest_in _ (by decide +kernel)) bw_203 bw_1 bw_204 hyS_X5_copyNumbers ⟨by decide, by decide⟩ rfl (Nat.le_of_ble_eq_true rfl) dX2_copyFrom_8 (fun σ9 h9 => ?_)
  subst h9
  obtain ⟨σ1, e_σ1⟩ : ∃ z : Sg, z = ua σ m 1 0 (va_cpy (σ m1 1 0) (σ m 1 0) 0 0 4) := ⟨_, rfl⟩
  replace hw := hw σ1 e_σ1
  refine gx_sg e_σ1 ?_
  refine gx_aload_n C dX2_copyFrom_11 1 rfl ?_
  refine gx_get C (ok0 hm1) rfl rfl inX2 (ref := "SweetWraps$Machine") 3 (by decide) bw_98 rfl rfl dX2_copyFrom_12 ?_
  refine gx_aload_n C dX2_copyFrom_15 0 rfl ?_
  refine gx_get C (ok0 hm) rfl rfl inX2 (ref := "SweetWraps$Machine") 3 (by decide) bw_98 rfl rfl dX2_copyFrom_16 ?_
  refine gx_ncallv (As := [.ref (ad (tE X) m1 4 0), .ref (ad (tE X) m 4 0)]) (rest := []) (host := "SweetWraps") C (c_X5_copyNumbers _ _ (ok4 hm1) (ok4 hm) (n := 6) (by decide) (fun _ _ _ => rfl)) (nest_in _ (by decide +kernel)) bw_203 bw_1 bw_204 hyS_X5_copyNumbers ⟨by decide, by decide⟩ rfl (Nat.le_of_ble_eq_true rfl) dX2_copyFrom_19 (fun σ9 h9 => ?_)
  subst h9
  obtain ⟨σ2, e_σ2⟩ : ∃ z : Sg, z = ua σ1 m 4 0 (va_cpy (σ1 m1 4 0) (σ1 m 4 0) 0 0 6) := ⟨_, rfl⟩
  replace hw := hw σ2 e_σ2
  refine gx_sg e_σ2 ?_
  refine gx_iconst (v := (0 : Int32)) C dX2_copyFrom_22 (by decide) ?_
  refine gx_istore_n (lv' := [(2, .int (0 : Int32)), (0, .ref (ad (tE X) m 0 0)), (1, .ref (ad (tE X) m1 0 0))]) C dX2_copyFrom_23 (by decide) rfl ?_
  refine gx_sub (lv' := [(0, .ref (ad (tE X) m 0 0)), (1, .ref (ad (tE X) m1 0 0)), (2, .int (0 : Int32))]) [1, 2, 0] rfl ?_
  exact g_X2_copyFrom_L24 C hm hm1 hw
theorem hy_X2_copyFrom : yX2_copyFrom.cls = "SweetWraps$Machine" ∧ yX2_copyFrom.cls ≠ "java/lang/invoke/MethodHandle" ∧ yX2_copyFrom.cls ≠ "java/lang/invoke/VarHandle" ∧ (parseMethodDescriptor yX2_copyFrom.desc).map (fun d => d.parameters.length) = some 1 := by decide +kernel

theorem dX5_isIndex_0 : decode cX5_isIndex 0 = .ok (.iload_n 0, 1) := by decide +kernel
theorem dX5_isIndex_1 : decode cX5_isIndex 1 = .ok (.ifCond .lt 12, 3) := by decide +kernel
theorem dX5_isIndex_4 : decode cX5_isIndex 4 = .ok (.iload_n 0, 1) := by decide +kernel
theorem dX5_isIndex_5 : decode cX5_isIndex 5 = .ok (.iload_n 1, 1) := by decide +kernel
theorem dX5_isIndex_6 : decode cX5_isIndex 6 = .ok (.if_icmp .ge 7, 3) := by decide +kernel
theorem dX5_isIndex_9 : decode cX5_isIndex 9 = .ok (.iconst 1, 1) := by decide +kernel
theorem dX5_isIndex_10 : decode cX5_isIndex 10 = .ok (.goto 4, 3) := by decide +kernel
theorem dX5_isIndex_13 : decode cX5_isIndex 13 = .ok (.iconst 0, 1) := by decide +kernel
theorem dX5_isIndex_14 : decode cX5_isIndex 14 = .ok (.ireturn, 1) := by decide +kernel
def wp_X5_isIndex (x0 : Int32) (x1 : Int32) (σ : Sg) (Q : Int32 → Sg → Prop) : Prop := ((x0 < 0 → Q (0 : Int32) σ) ∧ (¬ x0 < 0 → ((x1 ≤ x0 → Q (0 : Int32) σ) ∧ (¬ x1 ≤ x0 → Q (1 : Int32) σ))))
set_option maxRecDepth 100000 in
set_option maxHeartbeats 4000000 in
theorem c_X5_isIndex (l : Launch) (E : Ev) {x0 : Int32} {x1 : Int32} {σ : Sg} {Q : Int32 → Sg → Prop} (hw : wp_X5_isIndex x0 x1 σ Q) : CT l E yX5_isIndex cX5_isIndex 2 (some .boolean) 0 0 [.int x0, .int x1] σ (QI E Q) := by
  refine CT_of (by decide) (Nat.le_of_ble_eq_true rfl) (fun X h1 h2 C => ?_)
  subst h1; subst h2
  have C : Cx X cX5_isIndex "SweetWraps" (some .boolean) 0 0 2 (QI (tE X) Q) := C
  show G X σ [(0, .int x0), (1, .int x1)] [] 0
  unfold wp_X5_isIndex at hw
  refine gx_iload_n C dX5_isIndex_0 0 rfl ?_
  refine gx_if_lt (tgt := 13) C dX5_isIndex_1 (by decide) (fun c1 => ?_) (fun c1 => ?_)
  · replace hw := hw.1 c1
    refine gx_iconst (v := (0 : Int32)) C dX5_isIndex_13 (by decide) ?_
    exact gx_iret C rfl rfl dX5_isIndex_14 hw
  · replace hw := hw.2 c1
    refine gx_iload_n C dX5_isIndex_4 0 rfl ?_
    refine gx_iload_n C dX5_isIndex_5 1 rfl ?_
    refine gx_icmp_ge (tgt := 13) C dX5_isIndex_6 (by decide) (fun c2 => ?_) (fun c2 => ?_)
    · replace hw := hw.1 c2
      refine gx_iconst (v := (0 : Int32)) C dX5_isIndex_13 (by decide) ?_
      exact gx_iret C rfl rfl dX5_isIndex_14 hw
    · replace hw := hw.2 c2
      refine gx_iconst (v := (1 : Int32)) C dX5_isIndex_9 (by decide) ?_
      refine gx_goto (tgt := 14) C dX5_isIndex_10 (by decide) ?_
      exact gx_iret C rfl rfl dX5_isIndex_14 hw
theorem hyS_X5_isIndex : yX5_isIndex.cls ≠ "java/lang/invoke/MethodHandle" ∧ yX5_isIndex.cls ≠ "java/lang/invoke/VarHandle" ∧ (parseMethodDescriptor yX5_isIndex.desc).map (fun d => d.parameters.length) = some 2 := by decide +kernel

theorem dX1_isHeap_0 : decode cX1_isHeap 0 = .ok (.iload_n 1, 1) := by decide +kernel
theorem dX1_isHeap_1 : decode cX1_isHeap 1 = .ok (.aload_n 0, 1) := by decide +kernel
theorem dX1_isHeap_2 : decode cX1_isHeap 2 = .ok (.getfield 22, 3) := by decide +kernel
theorem dX1_isHeap_5 : decode cX1_isHeap 5 = .ok (.invokestatic 38, 3) := by decide +kernel
theorem dX1_isHeap_8 : decode cX1_isHeap 8 = .ok (.ifCond .eq 13, 3) := by decide +kernel
theorem dX1_isHeap_11 : decode cX1_isHeap 11 = .ok (.iload_n 1, 1) := by decide +kernel
theorem dX1_isHeap_12 : decode cX1_isHeap 12 = .ok (.bipush 6, 2) := by decide +kernel
theorem dX1_isHeap_14 : decode cX1_isHeap 14 = .ok (.if_icmp .ge 7, 3) := by decide +kernel
theorem dX1_isHeap_17 : decode cX1_isHeap 17 = .ok (.iconst 1, 1) := by decide +kernel
theorem dX1_isHeap_18 : decode cX1_isHeap 18 = .ok (.goto 4, 3) := by decide +kernel
theorem dX1_isHeap_21 : decode cX1_isHeap 21 = .ok (.iconst 0, 1) := by decide +kernel
theorem dX1_isHeap_22 : decode cX1_isHeap 22 = .ok (.ireturn, 1) := by decide +kernel
def wp_X1_isHeap (m : Nat) (i : Nat) (x1 : Int32) (σ : Sg) (Q : Int32 → Sg → Prop) : Prop := wp_X5_isIndex x1 (σ m 5 i 2) σ (fun r1 σ2 => ((r1 = 0 → Q (0 : Int32) σ2) ∧ (¬ r1 = 0 → (((6 : Int32) ≤ x1 → Q (0 : Int32) σ2) ∧ (¬ (6 : Int32) ≤ x1 → Q (1 : Int32) σ2)))))
set_option maxRecDepth 100000 in
set_option maxHeartbeats 4000000 in
theorem c_X1_isHeap (l : Launch) (E : Ev) {m : Nat} {i : Nat} {x1 : Int32} (hm : m < 11) (hi : i < 4) {σ : Sg} {Q : Int32 → Sg → Prop} (hw : wp_X1_isHeap m i x1 σ Q) : CT l E yX1_isHeap cX1_isHeap 2 (some .boolean) 1 21 [.ref (ad E m 5 i), .int x1] σ (QI E Q) := by
  refine CT_of (by decide) (Nat.le_of_ble_eq_true rfl) (fun X h1 h2 C => ?_)
  subst h1; subst h2
  have C : Cx X cX1_isHeap "SweetWraps$Lane" (some .boolean) 1 21 2 (QI (tE X) Q) := C
  show G X σ [(0, .ref (ad (tE X) m 5 i)), (1, .int x1)] [] 0
  unfold wp_X1_isHeap at hw
  refine gx_iload_n C dX1_isHeap_0 1 rfl ?_
  refine gx_aload_n C dX1_isHeap_1 0 rfl ?_
  refine gx_get C (ok5 hm hi) rfl rfl inX1 (ref := "SweetWraps$Lane") 2 (by decide) bw_41 rfl rfl dX1_isHeap_2 ?_
  refine gx_ncalli (As := [.int x1, .int (σ m 5 i 2)]) (rest := []) (host := "SweetWraps") C (c_X5_isIndex _ _ hw) (nest_in _ (by decide +kernel)) bw_226 bw_1 bw_227 hyS_X5_isIndex ⟨by decide, by decide⟩ rfl (Nat.le_of_ble_eq_true rfl) dX1_isHeap_5 (fun r1 σ2 hw => ?_)
  refine gx_if_eq (tgt := 21) C dX1_isHeap_8 (by decide) (fun c3 => ?_) (fun c3 => ?_)
  · replace hw := hw.1 c3
    refine gx_iconst (v := (0 : Int32)) C dX1_isHeap_21 (by decide) ?_
    exact gx_iret C rfl rfl dX1_isHeap_22 hw
  · replace hw := hw.2 c3
    refine gx_iload_n C dX1_isHeap_11 1 rfl ?_
    refine gx_bipush (v := (6 : Int32)) C dX1_isHeap_12 (by decide) ?_
    refine gx_icmp_ge (tgt := 21) C dX1_isHeap_14 (by decide) (fun c4 => ?_) (fun c4 => ?_)
    · replace hw := hw.1 c4
      refine gx_iconst (v := (0 : Int32)) C dX1_isHeap_21 (by decide) ?_
      exact gx_iret C rfl rfl dX1_isHeap_22 hw
    · replace hw := hw.2 c4
      refine gx_iconst (v := (1 : Int32)) C dX1_isHeap_17 (by decide) ?_
      refine gx_goto (tgt := 22) C dX1_isHeap_18 (by decide) ?_
      exact gx_iret C rfl rfl dX1_isHeap_22 hw
theorem hy_X1_isHeap : yX1_isHeap.cls = "SweetWraps$Lane" ∧ yX1_isHeap.cls ≠ "java/lang/invoke/MethodHandle" ∧ yX1_isHeap.cls ≠ "java/lang/invoke/VarHandle" ∧ (parseMethodDescriptor yX1_isHeap.desc).map (fun d => d.parameters.length) = some 1 := by decide +kernel

theorem dX1_nextFlavour_0 : decode cX1_nextFlavour 0 = .ok (.aload_n 0, 1) := by decide +kernel
theorem dX1_nextFlavour_1 : decode cX1_nextFlavour 1 = .ok (.iconst 0, 1) := by decide +kernel
theorem dX1_nextFlavour_2 : decode cX1_nextFlavour 2 = .ok (.invokevirtual 42, 3) := by decide +kernel
theorem dX1_nextFlavour_5 : decode cX1_nextFlavour 5 = .ok (.ifCond .eq 12, 3) := by decide +kernel
theorem dX1_nextFlavour_8 : decode cX1_nextFlavour 8 = .ok (.aload_n 0, 1) := by decide +kernel
theorem dX1_nextFlavour_9 : decode cX1_nextFlavour 9 = .ok (.getfield 9, 3) := by decide +kernel
theorem dX1_nextFlavour_12 : decode cX1_nextFlavour 12 = .ok (.iconst 0, 1) := by decide +kernel
theorem dX1_nextFlavour_13 : decode cX1_nextFlavour 13 = .ok (.iaload, 1) := by decide +kernel
theorem dX1_nextFlavour_14 : decode cX1_nextFlavour 14 = .ok (.goto 5, 3) := by decide +kernel
theorem dX1_nextFlavour_17 : decode cX1_nextFlavour 17 = .ok (.bipush (-6), 2) := by decide +kernel
theorem dX1_nextFlavour_19 : decode cX1_nextFlavour 19 = .ok (.ireturn, 1) := by decide +kernel
def wp_X1_nextFlavour (m : Nat) (i : Nat) (σ : Sg) (Q : Int32 → Sg → Prop) : Prop := wp_X1_isHeap m i (0 : Int32) σ (fun r1 σ2 => ((r1 = 0 → Q (-6 : Int32) σ2) ∧ (¬ r1 = 0 → Q (σ2 m 6 i 0) σ2)))
set_option maxRecDepth 100000 in
set_option maxHeartbeats 4000000 in
theorem c_X1_nextFlavour (l : Launch) (E : Ev) {m : Nat} {i : Nat} (hm : m < 11) (hi : i < 4) {σ : Sg} {Q : Int32 → Sg → Prop} (hw : wp_X1_nextFlavour m i σ Q) : CT l E yX1_nextFlavour cX1_nextFlavour 1 (some .int) 2 42 [.ref (ad E m 5 i)] σ (QI E Q) := by
  refine CT_of (by decide) (Nat.le_of_ble_eq_true rfl) (fun X h1 h2 C => ?_)
  subst h1; subst h2
  have C : Cx X cX1_nextFlavour "SweetWraps$Lane" (some .int) 2 42 1 (QI (tE X) Q) := C
  show G X σ [(0, .ref (ad (tE X) m 5 i))] [] 0
  unfold wp_X1_nextFlavour at hw
  refine gx_aload_n C dX1_nextFlavour_0 0 rfl ?_
  refine gx_iconst (v := (0 : Int32)) C dX1_nextFlavour_1 (by decide) ?_
  refine gx_vcalli (As := [.int (0 : Int32)]) (rest := []) C (c_X1_isHeap _ _ hm hi hw) (ok5 hm hi) rfl rfl bw_256 bw_257 bw_258 bw_3 bw_259 hy_X1_isHeap ⟨by decide, by decide⟩ rfl (Nat.le_of_ble_eq_true rfl) dX1_nextFlavour_2 (fun r1 σ2 hw => ?_)
  refine gx_if_eq (tgt := 17) C dX1_nextFlavour_5 (by decide) (fun c3 => ?_) (fun c3 => ?_)
  · replace hw := hw.1 c3
    refine gx_bipush (v := (-6 : Int32)) C dX1_nextFlavour_17 (by decide) ?_
    exact gx_iret C rfl rfl dX1_nextFlavour_19 hw
  · replace hw := hw.2 c3
    refine gx_aload_n C dX1_nextFlavour_8 0 rfl ?_
    refine gx_get C (ok5 hm hi) rfl rfl inX1 (ref := "SweetWraps$Lane") 0 (by decide) bw_37 rfl rfl dX1_nextFlavour_9 ?_
    refine gx_iconst (v := (0 : Int32)) C dX1_nextFlavour_12 (by decide) ?_
    refine gx_iald C (ok6 hm hi) rfl (n := 6) (x := (0 : Int32)) (by unfold vp_in; decide) 0 (by decide) dX1_nextFlavour_13 ?_
    refine gx_goto (tgt := 19) C dX1_nextFlavour_14 (by decide) ?_
    exact gx_iret C rfl rfl dX1_nextFlavour_19 hw
theorem hy_X1_nextFlavour : yX1_nextFlavour.cls = "SweetWraps$Lane" ∧ yX1_nextFlavour.cls ≠ "java/lang/invoke/MethodHandle" ∧ yX1_nextFlavour.cls ≠ "java/lang/invoke/VarHandle" ∧ (parseMethodDescriptor yX1_nextFlavour.desc).map (fun d => d.parameters.length) = some 0 := by decide +kernel

theorem dX1_sweetsInHopper_0 : decode cX1_sweetsInHopper 0 = .ok (.iconst 0, 1) := by decide +kernel
theorem dX1_sweetsInHopper_1 : decode cX1_sweetsInHopper 1 = .ok (.istore_n 1, 1) := by decide +kernel
theorem dX1_sweetsInHopper_2 : decode cX1_sweetsInHopper 2 = .ok (.iconst 0, 1) := by decide +kernel
theorem dX1_sweetsInHopper_3 : decode cX1_sweetsInHopper 3 = .ok (.istore_n 2, 1) := by decide +kernel
theorem dX1_sweetsInHopper_4 : decode cX1_sweetsInHopper 4 = .ok (.iload_n 2, 1) := by decide +kernel
theorem dX1_sweetsInHopper_5 : decode cX1_sweetsInHopper 5 = .ok (.aload_n 0, 1) := by decide +kernel
theorem dX1_sweetsInHopper_6 : decode cX1_sweetsInHopper 6 = .ok (.getfield 22, 3) := by decide +kernel
theorem dX1_sweetsInHopper_9 : decode cX1_sweetsInHopper 9 = .ok (.if_icmp .ge 24, 3) := by decide +kernel
theorem dX1_sweetsInHopper_12 : decode cX1_sweetsInHopper 12 = .ok (.iload_n 2, 1) := by decide +kernel
theorem dX1_sweetsInHopper_13 : decode cX1_sweetsInHopper 13 = .ok (.bipush 6, 2) := by decide +kernel
theorem dX1_sweetsInHopper_15 : decode cX1_sweetsInHopper 15 = .ok (.if_icmp .ge 18, 3) := by decide +kernel
theorem dX1_sweetsInHopper_18 : decode cX1_sweetsInHopper 18 = .ok (.iload_n 1, 1) := by decide +kernel
theorem dX1_sweetsInHopper_19 : decode cX1_sweetsInHopper 19 = .ok (.aload_n 0, 1) := by decide +kernel
theorem dX1_sweetsInHopper_20 : decode cX1_sweetsInHopper 20 = .ok (.getfield 15, 3) := by decide +kernel
theorem dX1_sweetsInHopper_23 : decode cX1_sweetsInHopper 23 = .ok (.iload_n 2, 1) := by decide +kernel
theorem dX1_sweetsInHopper_24 : decode cX1_sweetsInHopper 24 = .ok (.iaload, 1) := by decide +kernel
theorem dX1_sweetsInHopper_25 : decode cX1_sweetsInHopper 25 = .ok (.iadd, 1) := by decide +kernel
theorem dX1_sweetsInHopper_26 : decode cX1_sweetsInHopper 26 = .ok (.istore_n 1, 1) := by decide +kernel
theorem dX1_sweetsInHopper_27 : decode cX1_sweetsInHopper 27 = .ok (.iinc 2 1, 3) := by decide +kernel
theorem dX1_sweetsInHopper_30 : decode cX1_sweetsInHopper 30 = .ok (.goto (-26), 3) := by decide +kernel
theorem dX1_sweetsInHopper_33 : decode cX1_sweetsInHopper 33 = .ok (.iload_n 1, 1) := by decide +kernel
theorem dX1_sweetsInHopper_34 : decode cX1_sweetsInHopper 34 = .ok (.ireturn, 1) := by decide +kernel
def st_X1_sweetsInHopper_L4 (m : Nat) (i : Nat) (Q : Int32 → Sg → Prop) (K4 : Int32 → Int32 → Sg → Prop) (v1 : Int32) (v2 : Int32) (σ : Sg) : Prop := (((σ m 5 i 2) ≤ v2 → Q v1 σ) ∧ (¬ (σ m 5 i 2) ≤ v2 → (((6 : Int32) ≤ v2 → Q v1 σ) ∧ (¬ (6 : Int32) ≤ v2 → (vp_in v2 6 ∧ ∀ z3 : Int32, z3 = (v1 + (σ m 7 i v2.toNatClampNeg)) → ∀ z4 : Int32, z4 = v2 + (1 : Int32) → K4 z3 z4 σ)))))
def wp_X1_sweetsInHopper_L4 (m : Nat) (i : Nat) (Q : Int32 → Sg → Prop) (v1 : Int32) (v2 : Int32) (σ : Sg) : Prop := ∃ n : Nat, lpN (fun (K : Int32 × Int32 × Sg → Prop) (a : Int32 × Int32 × Sg) => st_X1_sweetsInHopper_L4 m i Q (fun v1 v2 σ => K (v1, v2, σ)) (a.1) (a.2.1) (a.2.2)) n (v1, v2, σ)
set_option maxRecDepth 100000 in
set_option maxHeartbeats 4000000 in
theorem gs_X1_sweetsInHopper_L4 {X : Tx} {Q : Int32 → Sg → Prop} (C : Cx X cX1_sweetsInHopper "SweetWraps$Lane" (some .int) 0 0 3 (QI (tE X) Q)) {m : Nat} {i : Nat} (hm : m < 11) (hi : i < 4) {K4 : Int32 → Int32 → Sg → Prop} (hK4 : ∀ (v1 : Int32) (v2 : Int32) (σ : Sg), K4 v1 v2 σ → G X σ [(0, .ref (ad (tE X) m 5 i)), (1, .int v1), (2, .int v2)] [] 4) {v1 : Int32} {v2 : Int32} {σ : Sg} (hw : st_X1_sweetsInHopper_L4 m i Q K4 v1 v2 σ) : G X σ [(0, .ref (ad (tE X) m 5 i)), (1, .int v1), (2, .int v2)] [] 4 := by
  unfold st_X1_sweetsInHopper_L4 at hw
  refine gx_iload_n C dX1_sweetsInHopper_4 2 rfl ?_
  refine gx_aload_n C dX1_sweetsInHopper_5 0 rfl ?_
  refine gx_get C (ok5 hm hi) rfl rfl inX1 (ref := "SweetWraps$Lane") 2 (by decide) bw_41 rfl rfl dX1_sweetsInHopper_6 ?_
  refine gx_icmp_ge (tgt := 33) C dX1_sweetsInHopper_9 (by decide) (fun c1 => ?_) (fun c1 => ?_)
  · replace hw := hw.1 c1
    refine gx_iload_n C dX1_sweetsInHopper_33 1 rfl ?_
    exact gx_iret C rfl rfl dX1_sweetsInHopper_34 hw
  · replace hw := hw.2 c1
    refine gx_iload_n C dX1_sweetsInHopper_12 2 rfl ?_
    refine gx_bipush (v := (6 : Int32)) C dX1_sweetsInHopper_13 (by decide) ?_
    refine gx_icmp_ge (tgt := 33) C dX1_sweetsInHopper_15 (by decide) (fun c2 => ?_) (fun c2 => ?_)
    · replace hw := hw.1 c2
      refine gx_iload_n C dX1_sweetsInHopper_33 1 rfl ?_
      exact gx_iret C rfl rfl dX1_sweetsInHopper_34 hw
    · replace hw := hw.2 c2
      refine gx_iload_n C dX1_sweetsInHopper_18 1 rfl ?_
      refine gx_aload_n C dX1_sweetsInHopper_19 0 rfl ?_
      refine gx_get C (ok5 hm hi) rfl rfl inX1 (ref := "SweetWraps$Lane") 1 (by decide) bw_39 rfl rfl dX1_sweetsInHopper_20 ?_
      refine gx_iload_n C dX1_sweetsInHopper_23 2 rfl ?_
      refine gx_iald C (ok7 hm hi) rfl hw.1 _ rfl dX1_sweetsInHopper_24 ?_
      replace hw := hw.2
      refine gx_iadd C dX1_sweetsInHopper_25 ?_
      obtain ⟨z3, e_z3⟩ : ∃ z : Int32, z = (v1 + (σ m 7 i v2.toNatClampNeg)) := ⟨_, rfl⟩
      replace hw := hw z3 e_z3
      refine gx_top e_z3 ?_
      refine gx_istore_n (lv' := [(1, .int z3), (0, .ref (ad (tE X) m 5 i)), (2, .int v2)]) C dX1_sweetsInHopper_26 (by decide) rfl ?_
      obtain ⟨z4, e_z4⟩ : ∃ z : Int32, z = v2 + (1 : Int32) := ⟨_, rfl⟩
      replace hw := hw z4 e_z4
      refine gx_iinc (v := z4) (lv' := [(2, .int z4), (1, .int z3), (0, .ref (ad (tE X) m 5 i))]) C dX1_sweetsInHopper_27 2 rfl (by rw [e_z4]; rfl) (by decide) rfl ?_
      refine gx_goto (tgt := 4) C dX1_sweetsInHopper_30 (by decide) ?_
      refine gx_sub (lv' := [(0, .ref (ad (tE X) m 5 i)), (1, .int z3), (2, .int z4)]) [2, 1, 0] rfl ?_
      exact hK4 _ _ _ hw
set_option maxRecDepth 100000 in
set_option maxHeartbeats 4000000 in
theorem g_X1_sweetsInHopper_L4 {X : Tx} {Q : Int32 → Sg → Prop} (C : Cx X cX1_sweetsInHopper "SweetWraps$Lane" (some .int) 0 0 3 (QI (tE X) Q)) {m : Nat} {i : Nat} (hm : m < 11) (hi : i < 4) {v1 : Int32} {v2 : Int32} {σ : Sg} (hw : wp_X1_sweetsInHopper_L4 m i Q v1 v2 σ) : G X σ [(0, .ref (ad (tE X) m 5 i)), (1, .int v1), (2, .int v2)] [] 4 := by
  obtain ⟨n, hw⟩ := hw
  exact lpN_G (P := (fun (a : Int32 × Int32 × Sg) => G X (a.2.2) [(0, .ref (ad (tE X) m 5 i)), (1, .int (a.1)), (2, .int (a.2.1))] [] 4)) (fun K a hK h => gs_X1_sweetsInHopper_L4 C hm hi (fun v1 v2 σ h => hK (v1, v2, σ) h) h) n _ hw
def wp_X1_sweetsInHopper (m : Nat) (i : Nat) (σ : Sg) (Q : Int32 → Sg → Prop) : Prop := wp_X1_sweetsInHopper_L4 m i Q (0 : Int32) (0 : Int32) σ
set_option maxRecDepth 100000 in
set_option maxHeartbeats 4000000 in
theorem c_X1_sweetsInHopper (l : Launch) (E : Ev) {m : Nat} {i : Nat} (hm : m < 11) (hi : i < 4) {σ : Sg} {Q : Int32 → Sg → Prop} (hw : wp_X1_sweetsInHopper m i σ Q) : CT l E yX1_sweetsInHopper cX1_sweetsInHopper 3 (some .int) 0 0 [.ref (ad E m 5 i)] σ (QI E Q) := by
  refine CT_of (by decide) (Nat.le_of_ble_eq_true rfl) (fun X h1 h2 C => ?_)
  subst h1; subst h2
  have C : Cx X cX1_sweetsInHopper "SweetWraps$Lane" (some .int) 0 0 3 (QI (tE X) Q) := C
  show G X σ [(0, .ref (ad (tE X) m 5 i))] [] 0
  unfold wp_X1_sweetsInHopper at hw
  refine gx_iconst (v := (0 : Int32)) C dX1_sweetsInHopper_0 (by decide) ?_
  refine gx_istore_n (lv' := [(1, .int (0 : Int32)), (0, .ref (ad (tE X) m 5 i))]) C dX1_sweetsInHopper_1 (by decide) rfl ?_
  refine gx_iconst (v := (0 : Int32)) C dX1_sweetsInHopper_2 (by decide) ?_
  refine gx_istore_n (lv' := [(2, .int (0 : Int32)), (1, .int (0 : Int32)), (0, .ref (ad (tE X) m 5 i))]) C dX1_sweetsInHopper_3 (by decide) rfl ?_
  refine gx_sub (lv' := [(0, .ref (ad (tE X) m 5 i)), (1, .int (0 : Int32)), (2, .int (0 : Int32))]) [2, 1, 0] rfl ?_
  exact g_X1_sweetsInHopper_L4 C hm hi hw
theorem hy_X1_sweetsInHopper : yX1_sweetsInHopper.cls = "SweetWraps$Lane" ∧ yX1_sweetsInHopper.cls ≠ "java/lang/invoke/MethodHandle" ∧ yX1_sweetsInHopper.cls ≠ "java/lang/invoke/VarHandle" ∧ (parseMethodDescriptor yX1_sweetsInHopper.desc).map (fun d => d.parameters.length) = some 0 := by decide +kernel

theorem dX1_sweetsOf_0 : decode cX1_sweetsOf 0 = .ok (.iconst 0, 1) := by decide +kernel
theorem dX1_sweetsOf_1 : decode cX1_sweetsOf 1 = .ok (.istore_n 2, 1) := by decide +kernel
theorem dX1_sweetsOf_2 : decode cX1_sweetsOf 2 = .ok (.iconst 0, 1) := by decide +kernel
theorem dX1_sweetsOf_3 : decode cX1_sweetsOf 3 = .ok (.istore_n 3, 1) := by decide +kernel
theorem dX1_sweetsOf_4 : decode cX1_sweetsOf 4 = .ok (.iload_n 3, 1) := by decide +kernel
theorem dX1_sweetsOf_5 : decode cX1_sweetsOf 5 = .ok (.aload_n 0, 1) := by decide +kernel
theorem dX1_sweetsOf_6 : decode cX1_sweetsOf 6 = .ok (.getfield 22, 3) := by decide +kernel
theorem dX1_sweetsOf_9 : decode cX1_sweetsOf 9 = .ok (.if_icmp .ge 34, 3) := by decide +kernel
theorem dX1_sweetsOf_12 : decode cX1_sweetsOf 12 = .ok (.iload_n 3, 1) := by decide +kernel
theorem dX1_sweetsOf_13 : decode cX1_sweetsOf 13 = .ok (.bipush 6, 2) := by decide +kernel
theorem dX1_sweetsOf_15 : decode cX1_sweetsOf 15 = .ok (.if_icmp .ge 28, 3) := by decide +kernel
theorem dX1_sweetsOf_18 : decode cX1_sweetsOf 18 = .ok (.aload_n 0, 1) := by decide +kernel
theorem dX1_sweetsOf_19 : decode cX1_sweetsOf 19 = .ok (.getfield 9, 3) := by decide +kernel
theorem dX1_sweetsOf_22 : decode cX1_sweetsOf 22 = .ok (.iload_n 3, 1) := by decide +kernel
theorem dX1_sweetsOf_23 : decode cX1_sweetsOf 23 = .ok (.iaload, 1) := by decide +kernel
theorem dX1_sweetsOf_24 : decode cX1_sweetsOf 24 = .ok (.iload_n 1, 1) := by decide +kernel
theorem dX1_sweetsOf_25 : decode cX1_sweetsOf 25 = .ok (.if_icmp .ne 12, 3) := by decide +kernel
theorem dX1_sweetsOf_28 : decode cX1_sweetsOf 28 = .ok (.iload_n 2, 1) := by decide +kernel
theorem dX1_sweetsOf_29 : decode cX1_sweetsOf 29 = .ok (.aload_n 0, 1) := by decide +kernel
theorem dX1_sweetsOf_30 : decode cX1_sweetsOf 30 = .ok (.getfield 15, 3) := by decide +kernel
theorem dX1_sweetsOf_33 : decode cX1_sweetsOf 33 = .ok (.iload_n 3, 1) := by decide +kernel
theorem dX1_sweetsOf_34 : decode cX1_sweetsOf 34 = .ok (.iaload, 1) := by decide +kernel
theorem dX1_sweetsOf_35 : decode cX1_sweetsOf 35 = .ok (.iadd, 1) := by decide +kernel
theorem dX1_sweetsOf_36 : decode cX1_sweetsOf 36 = .ok (.istore_n 2, 1) := by decide +kernel
theorem dX1_sweetsOf_37 : decode cX1_sweetsOf 37 = .ok (.iinc 3 1, 3) := by decide +kernel
theorem dX1_sweetsOf_40 : decode cX1_sweetsOf 40 = .ok (.goto (-36), 3) := by decide +kernel
theorem dX1_sweetsOf_43 : decode cX1_sweetsOf 43 = .ok (.iload_n 2, 1) := by decide +kernel
theorem dX1_sweetsOf_44 : decode cX1_sweetsOf 44 = .ok (.ireturn, 1) := by decide +kernel
def wp_X1_sweetsOf_b37 (m : Nat) (i : Nat) (x1 : Int32) (K4 : Int32 → Int32 → Sg → Prop) (Q : Int32 → Sg → Prop) (v2 : Int32) (v3 : Int32) (σ : Sg) : Prop := ∀ z5 : Int32, z5 = v3 + (1 : Int32) → K4 v2 z5 σ
set_option maxRecDepth 100000 in
set_option maxHeartbeats 4000000 in
theorem g_X1_sweetsOf_b37 {X : Tx} {Q : Int32 → Sg → Prop} (C : Cx X cX1_sweetsOf "SweetWraps$Lane" (some .int) 0 0 4 (QI (tE X) Q)) {m : Nat} {i : Nat} {x1 : Int32} (hm : m < 11) (hi : i < 4) {K4 : Int32 → Int32 → Sg → Prop} (hK4 : ∀ (v2 : Int32) (v3 : Int32) (σ : Sg), K4 v2 v3 σ → G X σ [(0, .ref (ad (tE X) m 5 i)), (1, .int x1), (2, .int v2), (3, .int v3)] [] 4) {v2 : Int32} {v3 : Int32} {σ : Sg} (hw : wp_X1_sweetsOf_b37 m i x1 K4 Q v2 v3 σ) : G X σ [(0, .ref (ad (tE X) m 5 i)), (1, .int x1), (2, .int v2), (3, .int v3)] [] 37 := by
  unfold wp_X1_sweetsOf_b37 at hw
  obtain ⟨z5, e_z5⟩ : ∃ z : Int32, z = v3 + (1 : Int32) := ⟨_, rfl⟩
  replace hw := hw z5 e_z5
  refine gx_iinc (v := z5) (lv' := [(3, .int z5), (0, .ref (ad (tE X) m 5 i)), (1, .int x1), (2, .int v2)]) C dX1_sweetsOf_37 3 rfl (by rw [e_z5]; rfl) (by decide) rfl ?_
  refine gx_goto (tgt := 4) C dX1_sweetsOf_40 (by decide) ?_
  refine gx_sub (lv' := [(0, .ref (ad (tE X) m 5 i)), (1, .int x1), (2, .int v2), (3, .int z5)]) [1, 2, 3, 0] rfl ?_
  exact hK4 _ _ _ hw
def st_X1_sweetsOf_L4 (m : Nat) (i : Nat) (x1 : Int32) (Q : Int32 → Sg → Prop) (K4 : Int32 → Int32 → Sg → Prop) (v2 : Int32) (v3 : Int32) (σ : Sg) : Prop := (((σ m 5 i 2) ≤ v3 → Q v2 σ) ∧ (¬ (σ m 5 i 2) ≤ v3 → (((6 : Int32) ≤ v3 → Q v2 σ) ∧ (¬ (6 : Int32) ≤ v3 → (vp_in v3 6 ∧ ((¬ (σ m 6 i v3.toNatClampNeg) = x1 → wp_X1_sweetsOf_b37 m i x1 K4 Q v2 v3 σ) ∧ ((σ m 6 i v3.toNatClampNeg) = x1 → (vp_in v3 6 ∧ ∀ z4 : Int32, z4 = (v2 + (σ m 7 i v3.toNatClampNeg)) → wp_X1_sweetsOf_b37 m i x1 K4 Q z4 v3 σ))))))))
def wp_X1_sweetsOf_L4 (m : Nat) (i : Nat) (x1 : Int32) (Q : Int32 → Sg → Prop) (v2 : Int32) (v3 : Int32) (σ : Sg) : Prop := ∃ n : Nat, lpN (fun (K : Int32 × Int32 × Sg → Prop) (a : Int32 × Int32 × Sg) => st_X1_sweetsOf_L4 m i x1 Q (fun v2 v3 σ => K (v2, v3, σ)) (a.1) (a.2.1) (a.2.2)) n (v2, v3, σ)
set_option maxRecDepth 100000 in
set_option maxHeartbeats 4000000 in
theorem gs_X1_sweetsOf_L4 {X : Tx} {Q : Int32 → Sg → Prop} (C : Cx X cX1_sweetsOf "SweetWraps$Lane" (some .int) 0 0 4 (QI (tE X) Q)) {m : Nat} {i : Nat} {x1 : Int32} (hm : m < 11) (hi : i < 4) {K4 : Int32 → Int32 → Sg → Prop} (hK4 : ∀ (v2 : Int32) (v3 : Int32) (σ : Sg), K4 v2 v3 σ → G X σ [(0, .ref (ad (tE X) m 5 i)), (1, .int x1), (2, .int v2), (3, .int v3)] [] 4) {v2 : Int32} {v3 : Int32} {σ : Sg} (hw : st_X1_sweetsOf_L4 m i x1 Q K4 v2 v3 σ) : G X σ [(0, .ref (ad (tE X) m 5 i)), (1, .int x1), (2, .int v2), (3, .int v3)] [] 4 := by
  unfold st_X1_sweetsOf_L4 at hw
  refine gx_iload_n C dX1_sweetsOf_4 3 rfl ?_
  refine gx_aload_n C dX1_sweetsOf_5 0 rfl ?_
  refine gx_get C (ok5 hm hi) rfl rfl inX1 (ref := "SweetWraps$Lane") 2 (by decide) bw_41 rfl rfl dX1_sweetsOf_6 ?_
  refine gx_icmp_ge (tgt := 43) C dX1_sweetsOf_9 (by decide) (fun c1 => ?_) (fun c1 => ?_)
  · replace hw := hw.1 c1
    refine gx_iload_n C dX1_sweetsOf_43 2 rfl ?_
    exact gx_iret C rfl rfl dX1_sweetsOf_44 hw
  · replace hw := hw.2 c1
    refine gx_iload_n C dX1_sweetsOf_12 3 rfl ?_
    refine gx_bipush (v := (6 : Int32)) C dX1_sweetsOf_13 (by decide) ?_
    refine gx_icmp_ge (tgt := 43) C dX1_sweetsOf_15 (by decide) (fun c2 => ?_) (fun c2 => ?_)
    · replace hw := hw.1 c2
      refine gx_iload_n C dX1_sweetsOf_43 2 rfl ?_
      exact gx_iret C rfl rfl dX1_sweetsOf_44 hw
    · replace hw := hw.2 c2
      refine gx_aload_n C dX1_sweetsOf_18 0 rfl ?_
      refine gx_get C (ok5 hm hi) rfl rfl inX1 (ref := "SweetWraps$Lane") 0 (by decide) bw_37 rfl rfl dX1_sweetsOf_19 ?_
      refine gx_iload_n C dX1_sweetsOf_22 3 rfl ?_
      refine gx_iald C (ok6 hm hi) rfl hw.1 _ rfl dX1_sweetsOf_23 ?_
      replace hw := hw.2
      refine gx_iload_n C dX1_sweetsOf_24 1 rfl ?_
      refine gx_icmp_ne (tgt := 37) C dX1_sweetsOf_25 (by decide) (fun c3 => ?_) (fun c3 => ?_)
      · replace hw := hw.1 c3
        exact g_X1_sweetsOf_b37 C hm hi hK4 hw
      · replace hw := hw.2 c3
        refine gx_iload_n C dX1_sweetsOf_28 2 rfl ?_
        refine gx_aload_n C dX1_sweetsOf_29 0 rfl ?_
        refine gx_get C (ok5 hm hi) rfl rfl inX1 (ref := "SweetWraps$Lane") 1 (by decide) bw_39 rfl rfl dX1_sweetsOf_30 ?_
        refine gx_iload_n C dX1_sweetsOf_33 3 rfl ?_
        refine gx_iald C (ok7 hm hi) rfl hw.1 _ rfl dX1_sweetsOf_34 ?_
        replace hw := hw.2
        refine gx_iadd C dX1_sweetsOf_35 ?_
        obtain ⟨z4, e_z4⟩ : ∃ z : Int32, z = (v2 + (σ m 7 i v3.toNatClampNeg)) := ⟨_, rfl⟩
        replace hw := hw z4 e_z4
        refine gx_top e_z4 ?_
        refine gx_istore_n (lv' := [(2, .int z4), (0, .ref (ad (tE X) m 5 i)), (1, .int x1), (3, .int v3)]) C dX1_sweetsOf_36 (by decide) rfl ?_
        refine gx_sub (lv' := [(0, .ref (ad (tE X) m 5 i)), (1, .int x1), (2, .int z4), (3, .int v3)]) [1, 2, 0, 3] rfl ?_
        exact g_X1_sweetsOf_b37 C hm hi hK4 hw
set_option maxRecDepth 100000 in
set_option maxHeartbeats 4000000 in
theorem g_X1_sweetsOf_L4 {X : Tx} {Q : Int32 → Sg → Prop} (C : Cx X cX1_sweetsOf "SweetWraps$Lane" (some .int) 0 0 4 (QI (tE X) Q)) {m : Nat} {i : Nat} {x1 : Int32} (hm : m < 11) (hi : i < 4) {v2 : Int32} {v3 : Int32} {σ : Sg} (hw : wp_X1_sweetsOf_L4 m i x1 Q v2 v3 σ) : G X σ [(0, .ref (ad (tE X) m 5 i)), (1, .int x1), (2, .int v2), (3, .int v3)] [] 4 := by
  obtain ⟨n, hw⟩ := hw
  exact lpN_G (P := (fun (a : Int32 × Int32 × Sg) => G X (a.2.2) [(0, .ref (ad (tE X) m 5 i)), (1, .int x1), (2, .int (a.1)), (3, .int (a.2.1))] [] 4)) (fun K a hK h => gs_X1_sweetsOf_L4 C hm hi (fun v2 v3 σ h => hK (v2, v3, σ) h) h) n _ hw
def wp_X1_sweetsOf (m : Nat) (i : Nat) (x1 : Int32) (σ : Sg) (Q : Int32 → Sg → Prop) : Prop := wp_X1_sweetsOf_L4 m i x1 Q (0 : Int32) (0 : Int32) σ
set_option maxRecDepth 100000 in
set_option maxHeartbeats 4000000 in
theorem c_X1_sweetsOf (l : Launch) (E : Ev) {m : Nat} {i : Nat} {x1 : Int32} (hm : m < 11) (hi : i < 4) {σ : Sg} {Q : Int32 → Sg → Prop} (hw : wp_X1_sweetsOf m i x1 σ Q) : CT l E yX1_sweetsOf cX1_sweetsOf 4 (some .int) 0 0 [.ref (ad E m 5 i), .int x1] σ (QI E Q) := by
  refine CT_of (by decide) (Nat.le_of_ble_eq_true rfl) (fun X h1 h2 C => ?_)
  subst h1; subst h2
  have C : Cx X cX1_sweetsOf "SweetWraps$Lane" (some .int) 0 0 4 (QI (tE X) Q) := C
  show G X σ [(0, .ref (ad (tE X) m 5 i)), (1, .int x1)] [] 0
  unfold wp_X1_sweetsOf at hw
  refine gx_iconst (v := (0 : Int32)) C dX1_sweetsOf_0 (by decide) ?_
  refine gx_istore_n (lv' := [(2, .int (0 : Int32)), (0, .ref (ad (tE X) m 5 i)), (1, .int x1)]) C dX1_sweetsOf_1 (by decide) rfl ?_
  refine gx_iconst (v := (0 : Int32)) C dX1_sweetsOf_2 (by decide) ?_
  refine gx_istore_n (lv' := [(3, .int (0 : Int32)), (2, .int (0 : Int32)), (0, .ref (ad (tE X) m 5 i)), (1, .int x1)]) C dX1_sweetsOf_3 (by decide) rfl ?_
  refine gx_sub (lv' := [(0, .ref (ad (tE X) m 5 i)), (1, .int x1), (2, .int (0 : Int32)), (3, .int (0 : Int32))]) [2, 3, 1, 0] rfl ?_
  exact g_X1_sweetsOf_L4 C hm hi hw
theorem hy_X1_sweetsOf : yX1_sweetsOf.cls = "SweetWraps$Lane" ∧ yX1_sweetsOf.cls ≠ "java/lang/invoke/MethodHandle" ∧ yX1_sweetsOf.cls ≠ "java/lang/invoke/VarHandle" ∧ (parseMethodDescriptor yX1_sweetsOf.desc).map (fun d => d.parameters.length) = some 1 := by decide +kernel

theorem dX1_addSweets_0 : decode cX1_addSweets 0 = .ok (.aload_n 0, 1) := by decide +kernel
theorem dX1_addSweets_1 : decode cX1_addSweets 1 = .ok (.aload_n 0, 1) := by decide +kernel
theorem dX1_addSweets_2 : decode cX1_addSweets 2 = .ok (.getfield 22, 3) := by decide +kernel
theorem dX1_addSweets_5 : decode cX1_addSweets 5 = .ok (.iconst 1, 1) := by decide +kernel
theorem dX1_addSweets_6 : decode cX1_addSweets 6 = .ok (.isub, 1) := by decide +kernel
theorem dX1_addSweets_7 : decode cX1_addSweets 7 = .ok (.invokevirtual 42, 3) := by decide +kernel
theorem dX1_addSweets_10 : decode cX1_addSweets 10 = .ok (.ifCond .eq 22, 3) := by decide +kernel
theorem dX1_addSweets_13 : decode cX1_addSweets 13 = .ok (.aload_n 0, 1) := by decide +kernel
theorem dX1_addSweets_14 : decode cX1_addSweets 14 = .ok (.getfield 9, 3) := by decide +kernel
theorem dX1_addSweets_17 : decode cX1_addSweets 17 = .ok (.aload_n 0, 1) := by decide +kernel
theorem dX1_addSweets_18 : decode cX1_addSweets 18 = .ok (.getfield 22, 3) := by decide +kernel
theorem dX1_addSweets_21 : decode cX1_addSweets 21 = .ok (.iconst 1, 1) := by decide +kernel
theorem dX1_addSweets_22 : decode cX1_addSweets 22 = .ok (.isub, 1) := by decide +kernel
theorem dX1_addSweets_23 : decode cX1_addSweets 23 = .ok (.iaload, 1) := by decide +kernel
theorem dX1_addSweets_24 : decode cX1_addSweets 24 = .ok (.iload_n 1, 1) := by decide +kernel
theorem dX1_addSweets_25 : decode cX1_addSweets 25 = .ok (.if_icmp .ne 7, 3) := by decide +kernel
theorem dX1_addSweets_28 : decode cX1_addSweets 28 = .ok (.iconst 1, 1) := by decide +kernel
theorem dX1_addSweets_29 : decode cX1_addSweets 29 = .ok (.goto 4, 3) := by decide +kernel
theorem dX1_addSweets_32 : decode cX1_addSweets 32 = .ok (.iconst 0, 1) := by decide +kernel
theorem dX1_addSweets_33 : decode cX1_addSweets 33 = .ok (.istore_n 3, 1) := by decide +kernel
theorem dX1_addSweets_34 : decode cX1_addSweets 34 = .ok (.iload_n 3, 1) := by decide +kernel
theorem dX1_addSweets_35 : decode cX1_addSweets 35 = .ok (.ifCond .eq 12, 3) := by decide +kernel
theorem dX1_addSweets_38 : decode cX1_addSweets 38 = .ok (.aload_n 0, 1) := by decide +kernel
theorem dX1_addSweets_39 : decode cX1_addSweets 39 = .ok (.getfield 22, 3) := by decide +kernel
theorem dX1_addSweets_42 : decode cX1_addSweets 42 = .ok (.iconst 1, 1) := by decide +kernel
theorem dX1_addSweets_43 : decode cX1_addSweets 43 = .ok (.isub, 1) := by decide +kernel
theorem dX1_addSweets_44 : decode cX1_addSweets 44 = .ok (.goto 7, 3) := by decide +kernel
theorem dX1_addSweets_47 : decode cX1_addSweets 47 = .ok (.aload_n 0, 1) := by decide +kernel
theorem dX1_addSweets_48 : decode cX1_addSweets 48 = .ok (.getfield 22, 3) := by decide +kernel
theorem dX1_addSweets_51 : decode cX1_addSweets 51 = .ok (.istore 4, 2) := by decide +kernel
theorem dX1_addSweets_53 : decode cX1_addSweets 53 = .ok (.iload 4, 2) := by decide +kernel
theorem dX1_addSweets_55 : decode cX1_addSweets 55 = .ok (.bipush 6, 2) := by decide +kernel
theorem dX1_addSweets_57 : decode cX1_addSweets 57 = .ok (.invokestatic 38, 3) := by decide +kernel
theorem dX1_addSweets_60 : decode cX1_addSweets 60 = .ok (.ifCond .ne 6, 3) := by decide +kernel
theorem dX1_addSweets_63 : decode cX1_addSweets 63 = .ok (.bipush (-4), 2) := by decide +kernel
theorem dX1_addSweets_65 : decode cX1_addSweets 65 = .ok (.ireturn, 1) := by decide +kernel
theorem dX1_addSweets_66 : decode cX1_addSweets 66 = .ok (.aload_n 0, 1) := by decide +kernel
theorem dX1_addSweets_67 : decode cX1_addSweets 67 = .ok (.invokevirtual 46, 3) := by decide +kernel
theorem dX1_addSweets_70 : decode cX1_addSweets 70 = .ok (.iload_n 2, 1) := by decide +kernel
theorem dX1_addSweets_71 : decode cX1_addSweets 71 = .ok (.iadd, 1) := by decide +kernel
theorem dX1_addSweets_72 : decode cX1_addSweets 72 = .ok (.sipush 999, 3) := by decide +kernel
theorem dX1_addSweets_75 : decode cX1_addSweets 75 = .ok (.if_icmp .le 6, 3) := by decide +kernel
theorem dX1_addSweets_78 : decode cX1_addSweets 78 = .ok (.bipush (-4), 2) := by decide +kernel
theorem dX1_addSweets_80 : decode cX1_addSweets 80 = .ok (.ireturn, 1) := by decide +kernel
theorem dX1_addSweets_81 : decode cX1_addSweets 81 = .ok (.aload_n 0, 1) := by decide +kernel
theorem dX1_addSweets_82 : decode cX1_addSweets 82 = .ok (.getfield 9, 3) := by decide +kernel
theorem dX1_addSweets_85 : decode cX1_addSweets 85 = .ok (.iload 4, 2) := by decide +kernel
theorem dX1_addSweets_87 : decode cX1_addSweets 87 = .ok (.iload_n 1, 1) := by decide +kernel
theorem dX1_addSweets_88 : decode cX1_addSweets 88 = .ok (.iastore, 1) := by decide +kernel
theorem dX1_addSweets_89 : decode cX1_addSweets 89 = .ok (.aload_n 0, 1) := by decide +kernel
theorem dX1_addSweets_90 : decode cX1_addSweets 90 = .ok (.getfield 15, 3) := by decide +kernel
theorem dX1_addSweets_93 : decode cX1_addSweets 93 = .ok (.iload 4, 2) := by decide +kernel
theorem dX1_addSweets_95 : decode cX1_addSweets 95 = .ok (.iload_n 3, 1) := by decide +kernel
theorem dX1_addSweets_96 : decode cX1_addSweets 96 = .ok (.ifCond .eq 15, 3) := by decide +kernel
theorem dX1_addSweets_99 : decode cX1_addSweets 99 = .ok (.aload_n 0, 1) := by decide +kernel
theorem dX1_addSweets_100 : decode cX1_addSweets 100 = .ok (.getfield 15, 3) := by decide +kernel
theorem dX1_addSweets_103 : decode cX1_addSweets 103 = .ok (.iload 4, 2) := by decide +kernel
theorem dX1_addSweets_105 : decode cX1_addSweets 105 = .ok (.iaload, 1) := by decide +kernel
theorem dX1_addSweets_106 : decode cX1_addSweets 106 = .ok (.iload_n 2, 1) := by decide +kernel
theorem dX1_addSweets_107 : decode cX1_addSweets 107 = .ok (.iadd, 1) := by decide +kernel
theorem dX1_addSweets_108 : decode cX1_addSweets 108 = .ok (.goto 4, 3) := by decide +kernel
theorem dX1_addSweets_111 : decode cX1_addSweets 111 = .ok (.iload_n 2, 1) := by decide +kernel
theorem dX1_addSweets_112 : decode cX1_addSweets 112 = .ok (.iastore, 1) := by decide +kernel
theorem dX1_addSweets_113 : decode cX1_addSweets 113 = .ok (.aload_n 0, 1) := by decide +kernel
theorem dX1_addSweets_114 : decode cX1_addSweets 114 = .ok (.iload 4, 2) := by decide +kernel
theorem dX1_addSweets_116 : decode cX1_addSweets 116 = .ok (.iconst 1, 1) := by decide +kernel
theorem dX1_addSweets_117 : decode cX1_addSweets 117 = .ok (.iadd, 1) := by decide +kernel
theorem dX1_addSweets_118 : decode cX1_addSweets 118 = .ok (.putfield 22, 3) := by decide +kernel
theorem dX1_addSweets_121 : decode cX1_addSweets 121 = .ok (.aload_n 0, 1) := by decide +kernel
theorem dX1_addSweets_122 : decode cX1_addSweets 122 = .ok (.invokevirtual 46, 3) := by decide +kernel
theorem dX1_addSweets_125 : decode cX1_addSweets 125 = .ok (.ireturn, 1) := by decide +kernel
def wp_X1_addSweets_b112 (m : Nat) (i : Nat) (x1 : Int32) (x2 : Int32) (Q : Int32 → Sg → Prop) (v4 : Int32) (s0 : Int32) (s1 : Int32) (σ : Sg) : Prop := (vp_in s1 6 ∧ ∀ σ14 : Sg, σ14 = up σ m 7 i s1.toNatClampNeg s0 → ∀ σ15 : Sg, σ15 = up σ14 m 5 i 2 (v4 + (1 : Int32)) → wp_X1_sweetsInHopper m i σ15 (fun r16 σ17 => Q r16 σ17))
set_option maxRecDepth 100000 in
set_option maxHeartbeats 4000000 in
theorem g_X1_addSweets_b112 {X : Tx} {Q : Int32 → Sg → Prop} (C : Cx X cX1_addSweets "SweetWraps$Lane" (some .int) 2 42 5 (QI (tE X) Q)) {m : Nat} {i : Nat} {x1 : Int32} {x2 : Int32} (hm : m < 11) (hi : i < 4) {v4 : Int32} {s0 : Int32} {s1 : Int32} {σ : Sg} (hw : wp_X1_addSweets_b112 m i x1 x2 Q v4 s0 s1 σ) : G X σ [(0, .ref (ad (tE X) m 5 i)), (4, .int v4)] [.int s0, .int s1, .ref (ad (tE X) m 7 i)] 112 := by
  unfold wp_X1_addSweets_b112 at hw
  refine gx_iast C (ok7 hm hi) (fun _ => rfl) hw.1 _ rfl rfl dX1_addSweets_112 ?_
  replace hw := hw.2
  obtain ⟨σ14, e_σ14⟩ : ∃ z : Sg, z = up σ m 7 i s1.toNatClampNeg s0 := ⟨_, rfl⟩
  replace hw := hw σ14 e_σ14
  refine gx_st e_σ14 ?_
  refine gx_aload_n C dX1_addSweets_113 0 rfl ?_
  refine gx_iload C dX1_addSweets_114 1 rfl ?_
  refine gx_iconst (v := (1 : Int32)) C dX1_addSweets_116 (by decide) ?_
  refine gx_iadd C dX1_addSweets_117 ?_
  refine gx_put C (ok5 hm hi) rfl rfl inX1 tyX1 tyX1_ok nmX1 (ref := "SweetWraps$Lane") 2 (by decide) bw_41 rfl rfl (v := .int (v4 + (1 : Int32))) rfl rfl (Nat.le_of_ble_eq_true rfl) (upd (σ14 m 5 i) 2 (v4 + (1 : Int32))) rfl dX1_addSweets_118 ?_
  obtain ⟨σ15, e_σ15⟩ : ∃ z : Sg, z = up σ14 m 5 i 2 (v4 + (1 : Int32)) := ⟨_, rfl⟩
  replace hw := hw σ15 e_σ15
  refine gx_st e_σ15 ?_
  refine gx_aload_n C dX1_addSweets_121 0 rfl ?_
  refine gx_vcalli (As := []) (rest := []) C (c_X1_sweetsInHopper _ _ hm hi hw) (ok5 hm hi) rfl rfl bw_261 bw_262 bw_263 bw_3 bw_264 hy_X1_sweetsInHopper ⟨by decide, by decide⟩ rfl (Nat.le_of_ble_eq_true rfl) dX1_addSweets_122 (fun r16 σ17 hw => ?_)
  exact gx_iret C rfl rfl dX1_addSweets_125 hw
def wp_X1_addSweets_b51 (m : Nat) (i : Nat) (x1 : Int32) (x2 : Int32) (Q : Int32 → Sg → Prop) (v3 : Int32) (s0 : Int32) (σ : Sg) : Prop := wp_X5_isIndex s0 (6 : Int32) σ (fun r6 σ7 => ((¬ r6 = 0 → wp_X1_sweetsInHopper m i σ7 (fun r9 σ10 => (((r9 + x2) ≤ (999 : Int32) → (vp_in s0 6 ∧ ∀ σ12 : Sg, σ12 = up σ10 m 6 i s0.toNatClampNeg x1 → ((v3 = 0 → wp_X1_addSweets_b112 m i x1 x2 Q s0 x2 s0 σ12) ∧ (¬ v3 = 0 → (vp_in s0 6 ∧ wp_X1_addSweets_b112 m i x1 x2 Q s0 ((σ12 m 7 i s0.toNatClampNeg) + x2) s0 σ12))))) ∧ (¬ (r9 + x2) ≤ (999 : Int32) → Q (-4 : Int32) σ10)))) ∧ (r6 = 0 → Q (-4 : Int32) σ7)))
set_option maxRecDepth 100000 in
set_option maxHeartbeats 4000000 in
theorem g_X1_addSweets_b51 {X : Tx} {Q : Int32 → Sg → Prop} (C : Cx X cX1_addSweets "SweetWraps$Lane" (some .int) 2 42 5 (QI (tE X) Q)) {m : Nat} {i : Nat} {x1 : Int32} {x2 : Int32} (hm : m < 11) (hi : i < 4) {v3 : Int32} {s0 : Int32} {σ : Sg} (hw : wp_X1_addSweets_b51 m i x1 x2 Q v3 s0 σ) : G X σ [(0, .ref (ad (tE X) m 5 i)), (1, .int x1), (2, .int x2), (3, .int v3)] [.int s0] 51 := by
  unfold wp_X1_addSweets_b51 at hw
  refine gx_istore (lv' := [(4, .int s0), (0, .ref (ad (tE X) m 5 i)), (1, .int x1), (2, .int x2), (3, .int v3)]) C dX1_addSweets_51 (by decide) rfl ?_
  refine gx_iload C dX1_addSweets_53 0 rfl ?_
  refine gx_bipush (v := (6 : Int32)) C dX1_addSweets_55 (by decide) ?_
  refine gx_ncalli (As := [.int s0, .int (6 : Int32)]) (rest := []) (host := "SweetWraps") C (c_X5_isIndex _ _ hw) (nest_in _ (by decide +kernel)) bw_226 bw_1 bw_227 hyS_X5_isIndex ⟨by decide, by decide⟩ rfl (Nat.le_of_ble_eq_true rfl) dX1_addSweets_57 (fun r6 σ7 hw => ?_)
  refine gx_if_ne (tgt := 66) C dX1_addSweets_60 (by decide) (fun c8 => ?_) (fun c8 => ?_)
  · replace hw := hw.1 c8
    refine gx_aload_n C dX1_addSweets_66 1 rfl ?_
    refine gx_vcalli (As := []) (rest := []) C (c_X1_sweetsInHopper _ _ hm hi hw) (ok5 hm hi) rfl rfl bw_261 bw_262 bw_263 bw_3 bw_264 hy_X1_sweetsInHopper ⟨by decide, by decide⟩ rfl (Nat.le_of_ble_eq_true rfl) dX1_addSweets_67 (fun r9 σ10 hw => ?_)
    refine gx_iload_n C dX1_addSweets_70 3 rfl ?_
    refine gx_iadd C dX1_addSweets_71 ?_
    refine gx_sipush (v := (999 : Int32)) C dX1_addSweets_72 (by decide) ?_
    refine gx_icmp_le (tgt := 81) C dX1_addSweets_75 (by decide) (fun c11 => ?_) (fun c11 => ?_)
    · replace hw := hw.1 c11
      refine gx_aload_n C dX1_addSweets_81 1 rfl ?_
      refine gx_get C (ok5 hm hi) rfl rfl inX1 (ref := "SweetWraps$Lane") 0 (by decide) bw_37 rfl rfl dX1_addSweets_82 ?_
      refine gx_iload C dX1_addSweets_85 0 rfl ?_
      refine gx_iload_n C dX1_addSweets_87 2 rfl ?_
      refine gx_iast C (ok6 hm hi) (fun _ => rfl) hw.1 _ rfl rfl dX1_addSweets_88 ?_
      replace hw := hw.2
      obtain ⟨σ12, e_σ12⟩ : ∃ z : Sg, z = up σ10 m 6 i s0.toNatClampNeg x1 := ⟨_, rfl⟩
      replace hw := hw σ12 e_σ12
      refine gx_st e_σ12 ?_
      refine gx_aload_n C dX1_addSweets_89 1 rfl ?_
      refine gx_get C (ok5 hm hi) rfl rfl inX1 (ref := "SweetWraps$Lane") 1 (by decide) bw_39 rfl rfl dX1_addSweets_90 ?_
      refine gx_iload C dX1_addSweets_93 0 rfl ?_
      refine gx_iload_n C dX1_addSweets_95 4 rfl ?_
      refine gx_if_eq (tgt := 111) C dX1_addSweets_96 (by decide) (fun c13 => ?_) (fun c13 => ?_)
      · replace hw := hw.1 c13
        refine gx_iload_n C dX1_addSweets_111 3 rfl ?_
        refine gx_sub (lv' := [(0, .ref (ad (tE X) m 5 i)), (4, .int s0)]) [1, 0] rfl ?_
        exact g_X1_addSweets_b112 C hm hi hw
      · replace hw := hw.2 c13
        refine gx_aload_n C dX1_addSweets_99 1 rfl ?_
        refine gx_get C (ok5 hm hi) rfl rfl inX1 (ref := "SweetWraps$Lane") 1 (by decide) bw_39 rfl rfl dX1_addSweets_100 ?_
        refine gx_iload C dX1_addSweets_103 0 rfl ?_
        refine gx_iald C (ok7 hm hi) rfl hw.1 _ rfl dX1_addSweets_105 ?_
        replace hw := hw.2
        refine gx_iload_n C dX1_addSweets_106 3 rfl ?_
        refine gx_iadd C dX1_addSweets_107 ?_
        refine gx_goto (tgt := 112) C dX1_addSweets_108 (by decide) ?_
        refine gx_sub (lv' := [(0, .ref (ad (tE X) m 5 i)), (4, .int s0)]) [1, 0] rfl ?_
        exact g_X1_addSweets_b112 C hm hi hw
    · replace hw := hw.2 c11
      refine gx_bipush (v := (-4 : Int32)) C dX1_addSweets_78 (by decide) ?_
      exact gx_iret C rfl rfl dX1_addSweets_80 hw
  · replace hw := hw.2 c8
    refine gx_bipush (v := (-4 : Int32)) C dX1_addSweets_63 (by decide) ?_
    exact gx_iret C rfl rfl dX1_addSweets_65 hw
def wp_X1_addSweets_b33 (m : Nat) (i : Nat) (x1 : Int32) (x2 : Int32) (Q : Int32 → Sg → Prop) (s0 : Int32) (σ : Sg) : Prop := ((s0 = 0 → wp_X1_addSweets_b51 m i x1 x2 Q s0 (σ m 5 i 2) σ) ∧ (¬ s0 = 0 → wp_X1_addSweets_b51 m i x1 x2 Q s0 ((σ m 5 i 2) - (1 : Int32)) σ))
set_option maxRecDepth 100000 in
set_option maxHeartbeats 4000000 in
theorem g_X1_addSweets_b33 {X : Tx} {Q : Int32 → Sg → Prop} (C : Cx X cX1_addSweets "SweetWraps$Lane" (some .int) 2 42 5 (QI (tE X) Q)) {m : Nat} {i : Nat} {x1 : Int32} {x2 : Int32} (hm : m < 11) (hi : i < 4) {s0 : Int32} {σ : Sg} (hw : wp_X1_addSweets_b33 m i x1 x2 Q s0 σ) : G X σ [(0, .ref (ad (tE X) m 5 i)), (1, .int x1), (2, .int x2)] [.int s0] 33 := by
  unfold wp_X1_addSweets_b33 at hw
  refine gx_istore_n (lv' := [(3, .int s0), (0, .ref (ad (tE X) m 5 i)), (1, .int x1), (2, .int x2)]) C dX1_addSweets_33 (by decide) rfl ?_
  refine gx_iload_n C dX1_addSweets_34 0 rfl ?_
  refine gx_if_eq (tgt := 47) C dX1_addSweets_35 (by decide) (fun c5 => ?_) (fun c5 => ?_)
  · replace hw := hw.1 c5
    refine gx_aload_n C dX1_addSweets_47 1 rfl ?_
    refine gx_get C (ok5 hm hi) rfl rfl inX1 (ref := "SweetWraps$Lane") 2 (by decide) bw_41 rfl rfl dX1_addSweets_48 ?_
    refine gx_sub (lv' := [(0, .ref (ad (tE X) m 5 i)), (1, .int x1), (2, .int x2), (3, .int s0)]) [1, 2, 3, 0] rfl ?_
    exact g_X1_addSweets_b51 C hm hi hw
  · replace hw := hw.2 c5
    refine gx_aload_n C dX1_addSweets_38 1 rfl ?_
    refine gx_get C (ok5 hm hi) rfl rfl inX1 (ref := "SweetWraps$Lane") 2 (by decide) bw_41 rfl rfl dX1_addSweets_39 ?_
    refine gx_iconst (v := (1 : Int32)) C dX1_addSweets_42 (by decide) ?_
    refine gx_isub C dX1_addSweets_43 ?_
    refine gx_goto (tgt := 51) C dX1_addSweets_44 (by decide) ?_
    refine gx_sub (lv' := [(0, .ref (ad (tE X) m 5 i)), (1, .int x1), (2, .int x2), (3, .int s0)]) [1, 2, 3, 0] rfl ?_
    exact g_X1_addSweets_b51 C hm hi hw
def wp_X1_addSweets_b32 (m : Nat) (i : Nat) (x1 : Int32) (x2 : Int32) (Q : Int32 → Sg → Prop) (σ : Sg) : Prop := wp_X1_addSweets_b33 m i x1 x2 Q (0 : Int32) σ
set_option maxRecDepth 100000 in
set_option maxHeartbeats 4000000 in
theorem g_X1_addSweets_b32 {X : Tx} {Q : Int32 → Sg → Prop} (C : Cx X cX1_addSweets "SweetWraps$Lane" (some .int) 2 42 5 (QI (tE X) Q)) {m : Nat} {i : Nat} {x1 : Int32} {x2 : Int32} (hm : m < 11) (hi : i < 4) {σ : Sg} (hw : wp_X1_addSweets_b32 m i x1 x2 Q σ) : G X σ [(0, .ref (ad (tE X) m 5 i)), (1, .int x1), (2, .int x2)] [] 32 := by
  unfold wp_X1_addSweets_b32 at hw
  refine gx_iconst (v := (0 : Int32)) C dX1_addSweets_32 (by decide) ?_
  exact g_X1_addSweets_b33 C hm hi hw
def wp_X1_addSweets (m : Nat) (i : Nat) (x1 : Int32) (x2 : Int32) (σ : Sg) (Q : Int32 → Sg → Prop) : Prop := wp_X1_isHeap m i ((σ m 5 i 2) - (1 : Int32)) σ (fun r1 σ2 => ((r1 = 0 → wp_X1_addSweets_b32 m i x1 x2 Q σ2) ∧ (¬ r1 = 0 → (vp_in ((σ2 m 5 i 2) - (1 : Int32)) 6 ∧ ((¬ (σ2 m 6 i ((σ2 m 5 i 2) - (1 : Int32)).toNatClampNeg) = x1 → wp_X1_addSweets_b32 m i x1 x2 Q σ2) ∧ ((σ2 m 6 i ((σ2 m 5 i 2) - (1 : Int32)).toNatClampNeg) = x1 → wp_X1_addSweets_b33 m i x1 x2 Q (1 : Int32) σ2))))))
set_option maxRecDepth 100000 in
set_option maxHeartbeats 4000000 in
theorem c_X1_addSweets (l : Launch) (E : Ev) {m : Nat} {i : Nat} {x1 : Int32} {x2 : Int32} (hm : m < 11) (hi : i < 4) {σ : Sg} {Q : Int32 → Sg → Prop} (hw : wp_X1_addSweets m i x1 x2 σ Q) : CT l E yX1_addSweets cX1_addSweets 5 (some .int) 2 42 [.ref (ad E m 5 i), .int x1, .int x2] σ (QI E Q) := by
  refine CT_of (by decide) (Nat.le_of_ble_eq_true rfl) (fun X h1 h2 C => ?_)
  subst h1; subst h2
  have C : Cx X cX1_addSweets "SweetWraps$Lane" (some .int) 2 42 5 (QI (tE X) Q) := C
  show G X σ [(0, .ref (ad (tE X) m 5 i)), (1, .int x1), (2, .int x2)] [] 0
  unfold wp_X1_addSweets at hw
  refine gx_aload_n C dX1_addSweets_0 0 rfl ?_
  refine gx_aload_n C dX1_addSweets_1 0 rfl ?_
  refine gx_get C (ok5 hm hi) rfl rfl inX1 (ref := "SweetWraps$Lane") 2 (by decide) bw_41 rfl rfl dX1_addSweets_2 ?_
  refine gx_iconst (v := (1 : Int32)) C dX1_addSweets_5 (by decide) ?_
  refine gx_isub C dX1_addSweets_6 ?_
  refine gx_vcalli (As := [.int ((σ m 5 i 2) - (1 : Int32))]) (rest := []) C (c_X1_isHeap _ _ hm hi hw) (ok5 hm hi) rfl rfl bw_256 bw_257 bw_258 bw_3 bw_259 hy_X1_isHeap ⟨by decide, by decide⟩ rfl (Nat.le_of_ble_eq_true rfl) dX1_addSweets_7 (fun r1 σ2 hw => ?_)
  refine gx_if_eq (tgt := 32) C dX1_addSweets_10 (by decide) (fun c3 => ?_) (fun c3 => ?_)
  · replace hw := hw.1 c3
    exact g_X1_addSweets_b32 C hm hi hw
  · replace hw := hw.2 c3
    refine gx_aload_n C dX1_addSweets_13 0 rfl ?_
    refine gx_get C (ok5 hm hi) rfl rfl inX1 (ref := "SweetWraps$Lane") 0 (by decide) bw_37 rfl rfl dX1_addSweets_14 ?_
    refine gx_aload_n C dX1_addSweets_17 0 rfl ?_
    refine gx_get C (ok5 hm hi) rfl rfl inX1 (ref := "SweetWraps$Lane") 2 (by decide) bw_41 rfl rfl dX1_addSweets_18 ?_
    refine gx_iconst (v := (1 : Int32)) C dX1_addSweets_21 (by decide) ?_
    refine gx_isub C dX1_addSweets_22 ?_
    refine gx_iald C (ok6 hm hi) rfl hw.1 _ rfl dX1_addSweets_23 ?_
    replace hw := hw.2
    refine gx_iload_n C dX1_addSweets_24 1 rfl ?_
    refine gx_icmp_ne (tgt := 32) C dX1_addSweets_25 (by decide) (fun c4 => ?_) (fun c4 => ?_)
    · replace hw := hw.1 c4
      exact g_X1_addSweets_b32 C hm hi hw
    · replace hw := hw.2 c4
      refine gx_iconst (v := (1 : Int32)) C dX1_addSweets_28 (by decide) ?_
      refine gx_goto (tgt := 33) C dX1_addSweets_29 (by decide) ?_
      exact g_X1_addSweets_b33 C hm hi hw
theorem hy_X1_addSweets : yX1_addSweets.cls = "SweetWraps$Lane" ∧ yX1_addSweets.cls ≠ "java/lang/invoke/MethodHandle" ∧ yX1_addSweets.cls ≠ "java/lang/invoke/VarHandle" ∧ (parseMethodDescriptor yX1_addSweets.desc).map (fun d => d.parameters.length) = some 2 := by decide +kernel

theorem dX1_pullTears_0 : decode cX1_pullTears 0 = .ok (.aload_n 0, 1) := by decide +kernel
theorem dX1_pullTears_1 : decode cX1_pullTears 1 = .ok (.dup, 1) := by decide +kernel
theorem dX1_pullTears_2 : decode cX1_pullTears 2 = .ok (.getfield 26, 3) := by decide +kernel
theorem dX1_pullTears_5 : decode cX1_pullTears 5 = .ok (.iload_n 1, 1) := by decide +kernel
theorem dX1_pullTears_6 : decode cX1_pullTears 6 = .ok (.isub, 1) := by decide +kernel
theorem dX1_pullTears_7 : decode cX1_pullTears 7 = .ok (.putfield 26, 3) := by decide +kernel
theorem dX1_pullTears_10 : decode cX1_pullTears 10 = .ok (.aload_n 0, 1) := by decide +kernel
theorem dX1_pullTears_11 : decode cX1_pullTears 11 = .ok (.dup, 1) := by decide +kernel
theorem dX1_pullTears_12 : decode cX1_pullTears 12 = .ok (.getfield 29, 3) := by decide +kernel
theorem dX1_pullTears_15 : decode cX1_pullTears 15 = .ok (.iconst 1, 1) := by decide +kernel
theorem dX1_pullTears_16 : decode cX1_pullTears 16 = .ok (.iadd, 1) := by decide +kernel
theorem dX1_pullTears_17 : decode cX1_pullTears 17 = .ok (.putfield 29, 3) := by decide +kernel
theorem dX1_pullTears_20 : decode cX1_pullTears 20 = .ok (.iload_n 2, 1) := by decide +kernel
theorem dX1_pullTears_21 : decode cX1_pullTears 21 = .ok (.iconst 1, 1) := by decide +kernel
theorem dX1_pullTears_22 : decode cX1_pullTears 22 = .ok (.if_icmp .lt 12, 3) := by decide +kernel
theorem dX1_pullTears_25 : decode cX1_pullTears 25 = .ok (.aload_n 0, 1) := by decide +kernel
theorem dX1_pullTears_26 : decode cX1_pullTears 26 = .ok (.getfield 29, 3) := by decide +kernel
theorem dX1_pullTears_29 : decode cX1_pullTears 29 = .ok (.iload_n 2, 1) := by decide +kernel
theorem dX1_pullTears_30 : decode cX1_pullTears 30 = .ok (.irem, 1) := by decide +kernel
theorem dX1_pullTears_31 : decode cX1_pullTears 31 = .ok (.ifCond .eq 5, 3) := by decide +kernel
theorem dX1_pullTears_34 : decode cX1_pullTears 34 = .ok (.iconst 0, 1) := by decide +kernel
theorem dX1_pullTears_35 : decode cX1_pullTears 35 = .ok (.ireturn, 1) := by decide +kernel
theorem dX1_pullTears_36 : decode cX1_pullTears 36 = .ok (.aload_n 0, 1) := by decide +kernel
theorem dX1_pullTears_37 : decode cX1_pullTears 37 = .ok (.dup, 1) := by decide +kernel
theorem dX1_pullTears_38 : decode cX1_pullTears 38 = .ok (.getfield 32, 3) := by decide +kernel
theorem dX1_pullTears_41 : decode cX1_pullTears 41 = .ok (.iconst 1, 1) := by decide +kernel
theorem dX1_pullTears_42 : decode cX1_pullTears 42 = .ok (.iadd, 1) := by decide +kernel
theorem dX1_pullTears_43 : decode cX1_pullTears 43 = .ok (.putfield 32, 3) := by decide +kernel
theorem dX1_pullTears_46 : decode cX1_pullTears 46 = .ok (.iconst 1, 1) := by decide +kernel
theorem dX1_pullTears_47 : decode cX1_pullTears 47 = .ok (.ireturn, 1) := by decide +kernel
def wp_X1_pullTears (m : Nat) (i : Nat) (x1 : Int32) (x2 : Int32) (σ : Sg) (Q : Int32 → Sg → Prop) : Prop := ∀ σ1 : Sg, σ1 = up σ m 5 i 3 ((σ m 5 i 3) - x1) → ∀ σ2 : Sg, σ2 = up σ1 m 5 i 4 ((σ1 m 5 i 4) + (1 : Int32)) → ((x2 < (1 : Int32) → Q (0 : Int32) σ2) ∧ (¬ x2 < (1 : Int32) → (¬ x2 = 0 ∧ ((((σ2 m 5 i 4) - (σ2 m 5 i 4) / x2 * x2) = 0 → ∀ σ5 : Sg, σ5 = up σ2 m 5 i 5 ((σ2 m 5 i 5) + (1 : Int32)) → Q (1 : Int32) σ5) ∧ (¬ ((σ2 m 5 i 4) - (σ2 m 5 i 4) / x2 * x2) = 0 → Q (0 : Int32) σ2)))))
set_option maxRecDepth 100000 in
set_option maxHeartbeats 4000000 in
theorem c_X1_pullTears (l : Launch) (E : Ev) {m : Nat} {i : Nat} {x1 : Int32} {x2 : Int32} (hm : m < 11) (hi : i < 4) {σ : Sg} {Q : Int32 → Sg → Prop} (hw : wp_X1_pullTears m i x1 x2 σ Q) : CT l E yX1_pullTears cX1_pullTears 3 (some .boolean) 0 0 [.ref (ad E m 5 i), .int x1, .int x2] σ (QI E Q) := by
  refine CT_of (by decide) (Nat.le_of_ble_eq_true rfl) (fun X h1 h2 C => ?_)
  subst h1; subst h2
  have C : Cx X cX1_pullTears "SweetWraps$Lane" (some .boolean) 0 0 3 (QI (tE X) Q) := C
  show G X σ [(0, .ref (ad (tE X) m 5 i)), (1, .int x1), (2, .int x2)] [] 0
  unfold wp_X1_pullTears at hw
  refine gx_aload_n C dX1_pullTears_0 0 rfl ?_
  refine gx_dup C dX1_pullTears_1 rfl ?_
  refine gx_get C (ok5 hm hi) rfl rfl inX1 (ref := "SweetWraps$Lane") 3 (by decide) bw_43 rfl rfl dX1_pullTears_2 ?_
  refine gx_iload_n C dX1_pullTears_5 1 rfl ?_
  refine gx_isub C dX1_pullTears_6 ?_
  refine gx_put C (ok5 hm hi) rfl rfl inX1 tyX1 tyX1_ok nmX1 (ref := "SweetWraps$Lane") 3 (by decide) bw_43 rfl rfl (v := .int ((σ m 5 i 3) - x1)) rfl rfl (Nat.le_of_ble_eq_true rfl) (upd (σ m 5 i) 3 ((σ m 5 i 3) - x1)) rfl dX1_pullTears_7 ?_
  obtain ⟨σ1, e_σ1⟩ : ∃ z : Sg, z = up σ m 5 i 3 ((σ m 5 i 3) - x1) := ⟨_, rfl⟩
  replace hw := hw σ1 e_σ1
  refine gx_st e_σ1 ?_
  refine gx_aload_n C dX1_pullTears_10 0 rfl ?_
  refine gx_dup C dX1_pullTears_11 rfl ?_
  refine gx_get C (ok5 hm hi) rfl rfl inX1 (ref := "SweetWraps$Lane") 4 (by decide) bw_45 rfl rfl dX1_pullTears_12 ?_
  refine gx_iconst (v := (1 : Int32)) C dX1_pullTears_15 (by decide) ?_
  refine gx_iadd C dX1_pullTears_16 ?_
  refine gx_put C (ok5 hm hi) rfl rfl inX1 tyX1 tyX1_ok nmX1 (ref := "SweetWraps$Lane") 4 (by decide) bw_45 rfl rfl (v := .int ((σ1 m 5 i 4) + (1 : Int32))) rfl rfl (Nat.le_of_ble_eq_true rfl) (upd (σ1 m 5 i) 4 ((σ1 m 5 i 4) + (1 : Int32))) rfl dX1_pullTears_17 ?_
  obtain ⟨σ2, e_σ2⟩ : ∃ z : Sg, z = up σ1 m 5 i 4 ((σ1 m 5 i 4) + (1 : Int32)) := ⟨_, rfl⟩
  replace hw := hw σ2 e_σ2
  refine gx_st e_σ2 ?_
  refine gx_iload_n C dX1_pullTears_20 2 rfl ?_
  refine gx_iconst (v := (1 : Int32)) C dX1_pullTears_21 (by decide) ?_
  refine gx_icmp_lt (tgt := 34) C dX1_pullTears_22 (by decide) (fun c3 => ?_) (fun c3 => ?_)
  · replace hw := hw.1 c3
    refine gx_iconst (v := (0 : Int32)) C dX1_pullTears_34 (by decide) ?_
    exact gx_iret C rfl rfl dX1_pullTears_35 hw
  · replace hw := hw.2 c3
    refine gx_aload_n C dX1_pullTears_25 0 rfl ?_
    refine gx_get C (ok5 hm hi) rfl rfl inX1 (ref := "SweetWraps$Lane") 4 (by decide) bw_45 rfl rfl dX1_pullTears_26 ?_
    refine gx_iload_n C dX1_pullTears_29 2 rfl ?_
    refine gx_irem C dX1_pullTears_30 hw.1 ?_
    replace hw := hw.2
    refine gx_if_eq (tgt := 36) C dX1_pullTears_31 (by decide) (fun c4 => ?_) (fun c4 => ?_)
    · replace hw := hw.1 c4
      refine gx_aload_n C dX1_pullTears_36 0 rfl ?_
      refine gx_dup C dX1_pullTears_37 rfl ?_
      refine gx_get C (ok5 hm hi) rfl rfl inX1 (ref := "SweetWraps$Lane") 5 (by decide) bw_47 rfl rfl dX1_pullTears_38 ?_
      refine gx_iconst (v := (1 : Int32)) C dX1_pullTears_41 (by decide) ?_
      refine gx_iadd C dX1_pullTears_42 ?_
      refine gx_put C (ok5 hm hi) rfl rfl inX1 tyX1 tyX1_ok nmX1 (ref := "SweetWraps$Lane") 5 (by decide) bw_47 rfl rfl (v := .int ((σ2 m 5 i 5) + (1 : Int32))) rfl rfl (Nat.le_of_ble_eq_true rfl) (upd (σ2 m 5 i) 5 ((σ2 m 5 i 5) + (1 : Int32))) rfl dX1_pullTears_43 ?_
      obtain ⟨σ5, e_σ5⟩ : ∃ z : Sg, z = up σ2 m 5 i 5 ((σ2 m 5 i 5) + (1 : Int32)) := ⟨_, rfl⟩
      replace hw := hw σ5 e_σ5
      refine gx_st e_σ5 ?_
      refine gx_iconst (v := (1 : Int32)) C dX1_pullTears_46 (by decide) ?_
      exact gx_iret C rfl rfl dX1_pullTears_47 hw
    · replace hw := hw.2 c4
      refine gx_iconst (v := (0 : Int32)) C dX1_pullTears_34 (by decide) ?_
      exact gx_iret C rfl rfl dX1_pullTears_35 hw
theorem hy_X1_pullTears : yX1_pullTears.cls = "SweetWraps$Lane" ∧ yX1_pullTears.cls ≠ "java/lang/invoke/MethodHandle" ∧ yX1_pullTears.cls ≠ "java/lang/invoke/VarHandle" ∧ (parseMethodDescriptor yX1_pullTears.desc).map (fun d => d.parameters.length) = some 2 := by decide +kernel

theorem dX1_wrapNext_0 : decode cX1_wrapNext 0 = .ok (.aload_n 0, 1) := by decide +kernel
theorem dX1_wrapNext_1 : decode cX1_wrapNext 1 = .ok (.dup, 1) := by decide +kernel
theorem dX1_wrapNext_2 : decode cX1_wrapNext 2 = .ok (.getfield 35, 3) := by decide +kernel
theorem dX1_wrapNext_5 : decode cX1_wrapNext 5 = .ok (.iconst 1, 1) := by decide +kernel
theorem dX1_wrapNext_6 : decode cX1_wrapNext 6 = .ok (.iadd, 1) := by decide +kernel
theorem dX1_wrapNext_7 : decode cX1_wrapNext 7 = .ok (.putfield 35, 3) := by decide +kernel
theorem dX1_wrapNext_10 : decode cX1_wrapNext 10 = .ok (.aload_n 0, 1) := by decide +kernel
theorem dX1_wrapNext_11 : decode cX1_wrapNext 11 = .ok (.getfield 15, 3) := by decide +kernel
theorem dX1_wrapNext_14 : decode cX1_wrapNext 14 = .ok (.iconst 0, 1) := by decide +kernel
theorem dX1_wrapNext_15 : decode cX1_wrapNext 15 = .ok (.dup2, 1) := by decide +kernel
theorem dX1_wrapNext_16 : decode cX1_wrapNext 16 = .ok (.iaload, 1) := by decide +kernel
theorem dX1_wrapNext_17 : decode cX1_wrapNext 17 = .ok (.iconst 1, 1) := by decide +kernel
theorem dX1_wrapNext_18 : decode cX1_wrapNext 18 = .ok (.isub, 1) := by decide +kernel
theorem dX1_wrapNext_19 : decode cX1_wrapNext 19 = .ok (.iastore, 1) := by decide +kernel
theorem dX1_wrapNext_20 : decode cX1_wrapNext 20 = .ok (.aload_n 0, 1) := by decide +kernel
theorem dX1_wrapNext_21 : decode cX1_wrapNext 21 = .ok (.getfield 15, 3) := by decide +kernel
theorem dX1_wrapNext_24 : decode cX1_wrapNext 24 = .ok (.iconst 0, 1) := by decide +kernel
theorem dX1_wrapNext_25 : decode cX1_wrapNext 25 = .ok (.iaload, 1) := by decide +kernel
theorem dX1_wrapNext_26 : decode cX1_wrapNext 26 = .ok (.ifCond .le 4, 3) := by decide +kernel
theorem dX1_wrapNext_29 : decode cX1_wrapNext 29 = .ok (.return_, 1) := by decide +kernel
theorem dX1_wrapNext_30 : decode cX1_wrapNext 30 = .ok (.aload_n 0, 1) := by decide +kernel
theorem dX1_wrapNext_31 : decode cX1_wrapNext 31 = .ok (.dup, 1) := by decide +kernel
theorem dX1_wrapNext_32 : decode cX1_wrapNext 32 = .ok (.getfield 22, 3) := by decide +kernel
theorem dX1_wrapNext_35 : decode cX1_wrapNext 35 = .ok (.iconst 1, 1) := by decide +kernel
theorem dX1_wrapNext_36 : decode cX1_wrapNext 36 = .ok (.isub, 1) := by decide +kernel
theorem dX1_wrapNext_37 : decode cX1_wrapNext 37 = .ok (.putfield 22, 3) := by decide +kernel
theorem dX1_wrapNext_40 : decode cX1_wrapNext 40 = .ok (.iconst 0, 1) := by decide +kernel
theorem dX1_wrapNext_41 : decode cX1_wrapNext 41 = .ok (.istore_n 1, 1) := by decide +kernel
theorem dX1_wrapNext_42 : decode cX1_wrapNext 42 = .ok (.iload_n 1, 1) := by decide +kernel
theorem dX1_wrapNext_43 : decode cX1_wrapNext 43 = .ok (.aload_n 0, 1) := by decide +kernel
theorem dX1_wrapNext_44 : decode cX1_wrapNext 44 = .ok (.getfield 22, 3) := by decide +kernel
theorem dX1_wrapNext_47 : decode cX1_wrapNext 47 = .ok (.if_icmp .ge 45, 3) := by decide +kernel
theorem dX1_wrapNext_50 : decode cX1_wrapNext 50 = .ok (.iload_n 1, 1) := by decide +kernel
theorem dX1_wrapNext_51 : decode cX1_wrapNext 51 = .ok (.iconst 1, 1) := by decide +kernel
theorem dX1_wrapNext_52 : decode cX1_wrapNext 52 = .ok (.iadd, 1) := by decide +kernel
theorem dX1_wrapNext_53 : decode cX1_wrapNext 53 = .ok (.bipush 6, 2) := by decide +kernel
theorem dX1_wrapNext_55 : decode cX1_wrapNext 55 = .ok (.if_icmp .ge 37, 3) := by decide +kernel
theorem dX1_wrapNext_58 : decode cX1_wrapNext 58 = .ok (.aload_n 0, 1) := by decide +kernel
theorem dX1_wrapNext_59 : decode cX1_wrapNext 59 = .ok (.getfield 9, 3) := by decide +kernel
theorem dX1_wrapNext_62 : decode cX1_wrapNext 62 = .ok (.iload_n 1, 1) := by decide +kernel
theorem dX1_wrapNext_63 : decode cX1_wrapNext 63 = .ok (.aload_n 0, 1) := by decide +kernel
theorem dX1_wrapNext_64 : decode cX1_wrapNext 64 = .ok (.getfield 9, 3) := by decide +kernel
theorem dX1_wrapNext_67 : decode cX1_wrapNext 67 = .ok (.iload_n 1, 1) := by decide +kernel
theorem dX1_wrapNext_68 : decode cX1_wrapNext 68 = .ok (.iconst 1, 1) := by decide +kernel
theorem dX1_wrapNext_69 : decode cX1_wrapNext 69 = .ok (.iadd, 1) := by decide +kernel
theorem dX1_wrapNext_70 : decode cX1_wrapNext 70 = .ok (.iaload, 1) := by decide +kernel
theorem dX1_wrapNext_71 : decode cX1_wrapNext 71 = .ok (.iastore, 1) := by decide +kernel
theorem dX1_wrapNext_72 : decode cX1_wrapNext 72 = .ok (.aload_n 0, 1) := by decide +kernel
theorem dX1_wrapNext_73 : decode cX1_wrapNext 73 = .ok (.getfield 15, 3) := by decide +kernel
theorem dX1_wrapNext_76 : decode cX1_wrapNext 76 = .ok (.iload_n 1, 1) := by decide +kernel
theorem dX1_wrapNext_77 : decode cX1_wrapNext 77 = .ok (.aload_n 0, 1) := by decide +kernel
theorem dX1_wrapNext_78 : decode cX1_wrapNext 78 = .ok (.getfield 15, 3) := by decide +kernel
theorem dX1_wrapNext_81 : decode cX1_wrapNext 81 = .ok (.iload_n 1, 1) := by decide +kernel
theorem dX1_wrapNext_82 : decode cX1_wrapNext 82 = .ok (.iconst 1, 1) := by decide +kernel
theorem dX1_wrapNext_83 : decode cX1_wrapNext 83 = .ok (.iadd, 1) := by decide +kernel
theorem dX1_wrapNext_84 : decode cX1_wrapNext 84 = .ok (.iaload, 1) := by decide +kernel
theorem dX1_wrapNext_85 : decode cX1_wrapNext 85 = .ok (.iastore, 1) := by decide +kernel
theorem dX1_wrapNext_86 : decode cX1_wrapNext 86 = .ok (.iinc 1 1, 3) := by decide +kernel
theorem dX1_wrapNext_89 : decode cX1_wrapNext 89 = .ok (.goto (-47), 3) := by decide +kernel
theorem dX1_wrapNext_92 : decode cX1_wrapNext 92 = .ok (.return_, 1) := by decide +kernel
def st_X1_wrapNext_L42 (m : Nat) (i : Nat) (Q : Sg → Prop) (K42 : Int32 → Sg → Prop) (v1 : Int32) (σ : Sg) : Prop := (((σ m 5 i 2) ≤ v1 → Q σ) ∧ (¬ (σ m 5 i 2) ≤ v1 → (((6 : Int32) ≤ (v1 + (1 : Int32)) → Q σ) ∧ (¬ (6 : Int32) ≤ (v1 + (1 : Int32)) → (vp_in (v1 + (1 : Int32)) 6 ∧ (vp_in v1 6 ∧ ∀ σ7 : Sg, σ7 = up σ m 6 i v1.toNatClampNeg (σ m 6 i (v1 + (1 : Int32)).toNatClampNeg) → (vp_in (v1 + (1 : Int32)) 6 ∧ (vp_in v1 6 ∧ ∀ σ8 : Sg, σ8 = up σ7 m 7 i v1.toNatClampNeg (σ7 m 7 i (v1 + (1 : Int32)).toNatClampNeg) → ∀ z9 : Int32, z9 = v1 + (1 : Int32) → K42 z9 σ8))))))))
def wp_X1_wrapNext_L42 (m : Nat) (i : Nat) (Q : Sg → Prop) (v1 : Int32) (σ : Sg) : Prop := ∃ n : Nat, lpN (fun (K : Int32 × Sg → Prop) (a : Int32 × Sg) => st_X1_wrapNext_L42 m i Q (fun v1 σ => K (v1, σ)) (a.1) (a.2)) n (v1, σ)
set_option maxRecDepth 100000 in
set_option maxHeartbeats 4000000 in
theorem gs_X1_wrapNext_L42 {X : Tx} {Q : Sg → Prop} (C : Cx X cX1_wrapNext "SweetWraps$Lane" none 0 0 2 (QV (tE X) Q)) {m : Nat} {i : Nat} (hm : m < 11) (hi : i < 4) {K42 : Int32 → Sg → Prop} (hK42 : ∀ (v1 : Int32) (σ : Sg), K42 v1 σ → G X σ [(0, .ref (ad (tE X) m 5 i)), (1, .int v1)] [] 42) {v1 : Int32} {σ : Sg} (hw : st_X1_wrapNext_L42 m i Q K42 v1 σ) : G X σ [(0, .ref (ad (tE X) m 5 i)), (1, .int v1)] [] 42 := by
  unfold st_X1_wrapNext_L42 at hw
  refine gx_iload_n C dX1_wrapNext_42 1 rfl ?_
  refine gx_aload_n C dX1_wrapNext_43 0 rfl ?_
  refine gx_get C (ok5 hm hi) rfl rfl inX1 (ref := "SweetWraps$Lane") 2 (by decide) bw_41 rfl rfl dX1_wrapNext_44 ?_
  refine gx_icmp_ge (tgt := 92) C dX1_wrapNext_47 (by decide) (fun c5 => ?_) (fun c5 => ?_)
  · replace hw := hw.1 c5
    exact gx_vret C dX1_wrapNext_92 hw
  · replace hw := hw.2 c5
    refine gx_iload_n C dX1_wrapNext_50 1 rfl ?_
    refine gx_iconst (v := (1 : Int32)) C dX1_wrapNext_51 (by decide) ?_
    refine gx_iadd C dX1_wrapNext_52 ?_
    refine gx_bipush (v := (6 : Int32)) C dX1_wrapNext_53 (by decide) ?_
    refine gx_icmp_ge (tgt := 92) C dX1_wrapNext_55 (by decide) (fun c6 => ?_) (fun c6 => ?_)
    · replace hw := hw.1 c6
      exact gx_vret C dX1_wrapNext_92 hw
    · replace hw := hw.2 c6
      refine gx_aload_n C dX1_wrapNext_58 0 rfl ?_
      refine gx_get C (ok5 hm hi) rfl rfl inX1 (ref := "SweetWraps$Lane") 0 (by decide) bw_37 rfl rfl dX1_wrapNext_59 ?_
      refine gx_iload_n C dX1_wrapNext_62 1 rfl ?_
      refine gx_aload_n C dX1_wrapNext_63 0 rfl ?_
      refine gx_get C (ok5 hm hi) rfl rfl inX1 (ref := "SweetWraps$Lane") 0 (by decide) bw_37 rfl rfl dX1_wrapNext_64 ?_
      refine gx_iload_n C dX1_wrapNext_67 1 rfl ?_
      refine gx_iconst (v := (1 : Int32)) C dX1_wrapNext_68 (by decide) ?_
      refine gx_iadd C dX1_wrapNext_69 ?_
      refine gx_iald C (ok6 hm hi) rfl hw.1 _ rfl dX1_wrapNext_70 ?_
      replace hw := hw.2
      refine gx_iast C (ok6 hm hi) (fun _ => rfl) hw.1 _ rfl rfl dX1_wrapNext_71 ?_
      replace hw := hw.2
      obtain ⟨σ7, e_σ7⟩ : ∃ z : Sg, z = up σ m 6 i v1.toNatClampNeg (σ m 6 i (v1 + (1 : Int32)).toNatClampNeg) := ⟨_, rfl⟩
      replace hw := hw σ7 e_σ7
      refine gx_st e_σ7 ?_
      refine gx_aload_n C dX1_wrapNext_72 0 rfl ?_
      refine gx_get C (ok5 hm hi) rfl rfl inX1 (ref := "SweetWraps$Lane") 1 (by decide) bw_39 rfl rfl dX1_wrapNext_73 ?_
      refine gx_iload_n C dX1_wrapNext_76 1 rfl ?_
      refine gx_aload_n C dX1_wrapNext_77 0 rfl ?_
      refine gx_get C (ok5 hm hi) rfl rfl inX1 (ref := "SweetWraps$Lane") 1 (by decide) bw_39 rfl rfl dX1_wrapNext_78 ?_
      refine gx_iload_n C dX1_wrapNext_81 1 rfl ?_
      refine gx_iconst (v := (1 : Int32)) C dX1_wrapNext_82 (by decide) ?_
      refine gx_iadd C dX1_wrapNext_83 ?_
      refine gx_iald C (ok7 hm hi) rfl hw.1 _ rfl dX1_wrapNext_84 ?_
      replace hw := hw.2
      refine gx_iast C (ok7 hm hi) (fun _ => rfl) hw.1 _ rfl rfl dX1_wrapNext_85 ?_
      replace hw := hw.2
      obtain ⟨σ8, e_σ8⟩ : ∃ z : Sg, z = up σ7 m 7 i v1.toNatClampNeg (σ7 m 7 i (v1 + (1 : Int32)).toNatClampNeg) := ⟨_, rfl⟩
      replace hw := hw σ8 e_σ8
      refine gx_st e_σ8 ?_
      obtain ⟨z9, e_z9⟩ : ∃ z : Int32, z = v1 + (1 : Int32) := ⟨_, rfl⟩
      replace hw := hw z9 e_z9
      refine gx_iinc (v := z9) (lv' := [(1, .int z9), (0, .ref (ad (tE X) m 5 i))]) C dX1_wrapNext_86 1 rfl (by rw [e_z9]; rfl) (by decide) rfl ?_
      refine gx_goto (tgt := 42) C dX1_wrapNext_89 (by decide) ?_
      refine gx_sub (lv' := [(0, .ref (ad (tE X) m 5 i)), (1, .int z9)]) [1, 0] rfl ?_
      exact hK42 _ _ hw
set_option maxRecDepth 100000 in
set_option maxHeartbeats 4000000 in
theorem g_X1_wrapNext_L42 {X : Tx} {Q : Sg → Prop} (C : Cx X cX1_wrapNext "SweetWraps$Lane" none 0 0 2 (QV (tE X) Q)) {m : Nat} {i : Nat} (hm : m < 11) (hi : i < 4) {v1 : Int32} {σ : Sg} (hw : wp_X1_wrapNext_L42 m i Q v1 σ) : G X σ [(0, .ref (ad (tE X) m 5 i)), (1, .int v1)] [] 42 := by
  obtain ⟨n, hw⟩ := hw
  exact lpN_G (P := (fun (a : Int32 × Sg) => G X (a.2) [(0, .ref (ad (tE X) m 5 i)), (1, .int (a.1))] [] 42)) (fun K a hK h => gs_X1_wrapNext_L42 C hm hi (fun v1 σ h => hK (v1, σ) h) h) n _ hw
def wp_X1_wrapNext (m : Nat) (i : Nat) (σ : Sg) (Q : Sg → Prop) : Prop := ∀ σ1 : Sg, σ1 = up σ m 5 i 6 ((σ m 5 i 6) + (1 : Int32)) → ∀ σ2 : Sg, σ2 = up σ1 m 7 i 0 ((σ1 m 7 i 0) - (1 : Int32)) → (((σ2 m 7 i 0) ≤ 0 → ∀ σ4 : Sg, σ4 = up σ2 m 5 i 2 ((σ2 m 5 i 2) - (1 : Int32)) → wp_X1_wrapNext_L42 m i Q (0 : Int32) σ4) ∧ (¬ (σ2 m 7 i 0) ≤ 0 → Q σ2))
set_option maxRecDepth 100000 in
set_option maxHeartbeats 4000000 in
theorem c_X1_wrapNext (l : Launch) (E : Ev) {m : Nat} {i : Nat} (hm : m < 11) (hi : i < 4) {σ : Sg} {Q : Sg → Prop} (hw : wp_X1_wrapNext m i σ Q) : CT l E yX1_wrapNext cX1_wrapNext 2 none 0 0 [.ref (ad E m 5 i)] σ (QV E Q) := by
  refine CT_of (by decide) (Nat.le_of_ble_eq_true rfl) (fun X h1 h2 C => ?_)
  subst h1; subst h2
  have C : Cx X cX1_wrapNext "SweetWraps$Lane" none 0 0 2 (QV (tE X) Q) := C
  show G X σ [(0, .ref (ad (tE X) m 5 i))] [] 0
  unfold wp_X1_wrapNext at hw
  refine gx_aload_n C dX1_wrapNext_0 0 rfl ?_
  refine gx_dup C dX1_wrapNext_1 rfl ?_
  refine gx_get C (ok5 hm hi) rfl rfl inX1 (ref := "SweetWraps$Lane") 6 (by decide) bw_49 rfl rfl dX1_wrapNext_2 ?_
  refine gx_iconst (v := (1 : Int32)) C dX1_wrapNext_5 (by decide) ?_
  refine gx_iadd C dX1_wrapNext_6 ?_
  refine gx_put C (ok5 hm hi) rfl rfl inX1 tyX1 tyX1_ok nmX1 (ref := "SweetWraps$Lane") 6 (by decide) bw_49 rfl rfl (v := .int ((σ m 5 i 6) + (1 : Int32))) rfl rfl (Nat.le_of_ble_eq_true rfl) (upd (σ m 5 i) 6 ((σ m 5 i 6) + (1 : Int32))) rfl dX1_wrapNext_7 ?_
  obtain ⟨σ1, e_σ1⟩ : ∃ z : Sg, z = up σ m 5 i 6 ((σ m 5 i 6) + (1 : Int32)) := ⟨_, rfl⟩
  replace hw := hw σ1 e_σ1
  refine gx_st e_σ1 ?_
  refine gx_aload_n C dX1_wrapNext_10 0 rfl ?_
  refine gx_get C (ok5 hm hi) rfl rfl inX1 (ref := "SweetWraps$Lane") 1 (by decide) bw_39 rfl rfl dX1_wrapNext_11 ?_
  refine gx_iconst (v := (0 : Int32)) C dX1_wrapNext_14 (by decide) ?_
  refine gx_dup2 C dX1_wrapNext_15 rfl rfl ?_
  refine gx_iald C (ok7 hm hi) rfl (n := 6) (x := (0 : Int32)) (by unfold vp_in; decide) 0 (by decide) dX1_wrapNext_16 ?_
  refine gx_iconst (v := (1 : Int32)) C dX1_wrapNext_17 (by decide) ?_
  refine gx_isub C dX1_wrapNext_18 ?_
  refine gx_iast C (ok7 hm hi) (fun _ => rfl) (n := 6) (x := (0 : Int32)) (by unfold vp_in; decide) 0 (by decide) rfl dX1_wrapNext_19 ?_
  obtain ⟨σ2, e_σ2⟩ : ∃ z : Sg, z = up σ1 m 7 i 0 ((σ1 m 7 i 0) - (1 : Int32)) := ⟨_, rfl⟩
  replace hw := hw σ2 e_σ2
  refine gx_st e_σ2 ?_
  refine gx_aload_n C dX1_wrapNext_20 0 rfl ?_
  refine gx_get C (ok5 hm hi) rfl rfl inX1 (ref := "SweetWraps$Lane") 1 (by decide) bw_39 rfl rfl dX1_wrapNext_21 ?_
  refine gx_iconst (v := (0 : Int32)) C dX1_wrapNext_24 (by decide) ?_
  refine gx_iald C (ok7 hm hi) rfl (n := 6) (x := (0 : Int32)) (by unfold vp_in; decide) 0 (by decide) dX1_wrapNext_25 ?_
  refine gx_if_le (tgt := 30) C dX1_wrapNext_26 (by decide) (fun c3 => ?_) (fun c3 => ?_)
  · replace hw := hw.1 c3
    refine gx_aload_n C dX1_wrapNext_30 0 rfl ?_
    refine gx_dup C dX1_wrapNext_31 rfl ?_
    refine gx_get C (ok5 hm hi) rfl rfl inX1 (ref := "SweetWraps$Lane") 2 (by decide) bw_41 rfl rfl dX1_wrapNext_32 ?_
    refine gx_iconst (v := (1 : Int32)) C dX1_wrapNext_35 (by decide) ?_
    refine gx_isub C dX1_wrapNext_36 ?_
    refine gx_put C (ok5 hm hi) rfl rfl inX1 tyX1 tyX1_ok nmX1 (ref := "SweetWraps$Lane") 2 (by decide) bw_41 rfl rfl (v := .int ((σ2 m 5 i 2) - (1 : Int32))) rfl rfl (Nat.le_of_ble_eq_true rfl) (upd (σ2 m 5 i) 2 ((σ2 m 5 i 2) - (1 : Int32))) rfl dX1_wrapNext_37 ?_
    obtain ⟨σ4, e_σ4⟩ : ∃ z : Sg, z = up σ2 m 5 i 2 ((σ2 m 5 i 2) - (1 : Int32)) := ⟨_, rfl⟩
    replace hw := hw σ4 e_σ4
    refine gx_st e_σ4 ?_
    refine gx_iconst (v := (0 : Int32)) C dX1_wrapNext_40 (by decide) ?_
    refine gx_istore_n (lv' := [(1, .int (0 : Int32)), (0, .ref (ad (tE X) m 5 i))]) C dX1_wrapNext_41 (by decide) rfl ?_
    refine gx_sub (lv' := [(0, .ref (ad (tE X) m 5 i)), (1, .int (0 : Int32))]) [1, 0] rfl ?_
    exact g_X1_wrapNext_L42 C hm hi hw
  · replace hw := hw.2 c3
    exact gx_vret C dX1_wrapNext_29 hw
theorem hy_X1_wrapNext : yX1_wrapNext.cls = "SweetWraps$Lane" ∧ yX1_wrapNext.cls ≠ "java/lang/invoke/MethodHandle" ∧ yX1_wrapNext.cls ≠ "java/lang/invoke/VarHandle" ∧ (parseMethodDescriptor yX1_wrapNext.desc).map (fun d => d.parameters.length) = some 0 := by decide +kernel

theorem dX5_isBetween_0 : decode cX5_isBetween 0 = .ok (.iload_n 0, 1) := by decide +kernel
theorem dX5_isBetween_1 : decode cX5_isBetween 1 = .ok (.iload_n 1, 1) := by decide +kernel
theorem dX5_isBetween_2 : decode cX5_isBetween 2 = .ok (.if_icmp .lt 12, 3) := by decide +kernel
theorem dX5_isBetween_5 : decode cX5_isBetween 5 = .ok (.iload_n 0, 1) := by decide +kernel
theorem dX5_isBetween_6 : decode cX5_isBetween 6 = .ok (.iload_n 2, 1) := by decide +kernel
theorem dX5_isBetween_7 : decode cX5_isBetween 7 = .ok (.if_icmp .gt 7, 3) := by decide +kernel
theorem dX5_isBetween_10 : decode cX5_isBetween 10 = .ok (.iconst 1, 1) := by decide +kernel
theorem dX5_isBetween_11 : decode cX5_isBetween 11 = .ok (.goto 4, 3) := by decide +kernel
theorem dX5_isBetween_14 : decode cX5_isBetween 14 = .ok (.iconst 0, 1) := by decide +kernel
theorem dX5_isBetween_15 : decode cX5_isBetween 15 = .ok (.ireturn, 1) := by decide +kernel
def wp_X5_isBetween (x0 : Int32) (x1 : Int32) (x2 : Int32) (σ : Sg) (Q : Int32 → Sg → Prop) : Prop := ((x0 < x1 → Q (0 : Int32) σ) ∧ (¬ x0 < x1 → ((x2 < x0 → Q (0 : Int32) σ) ∧ (¬ x2 < x0 → Q (1 : Int32) σ))))
set_option maxRecDepth 100000 in
set_option maxHeartbeats 4000000 in
theorem c_X5_isBetween (l : Launch) (E : Ev) {x0 : Int32} {x1 : Int32} {x2 : Int32} {σ : Sg} {Q : Int32 → Sg → Prop} (hw : wp_X5_isBetween x0 x1 x2 σ Q) : CT l E yX5_isBetween cX5_isBetween 3 (some .boolean) 0 0 [.int x0, .int x1, .int x2] σ (QI E Q) := by
  refine CT_of (by decide) (Nat.le_of_ble_eq_true rfl) (fun X h1 h2 C => ?_)
  subst h1; subst h2
  have C : Cx X cX5_isBetween "SweetWraps" (some .boolean) 0 0 3 (QI (tE X) Q) := C
  show G X σ [(0, .int x0), (1, .int x1), (2, .int x2)] [] 0
  unfold wp_X5_isBetween at hw
  refine gx_iload_n C dX5_isBetween_0 0 rfl ?_
  refine gx_iload_n C dX5_isBetween_1 1 rfl ?_
  refine gx_icmp_lt (tgt := 14) C dX5_isBetween_2 (by decide) (fun c1 => ?_) (fun c1 => ?_)
  · replace hw := hw.1 c1
    refine gx_iconst (v := (0 : Int32)) C dX5_isBetween_14 (by decide) ?_
    exact gx_iret C rfl rfl dX5_isBetween_15 hw
  · replace hw := hw.2 c1
    refine gx_iload_n C dX5_isBetween_5 0 rfl ?_
    refine gx_iload_n C dX5_isBetween_6 2 rfl ?_
    refine gx_icmp_gt (tgt := 14) C dX5_isBetween_7 (by decide) (fun c2 => ?_) (fun c2 => ?_)
    · replace hw := hw.1 c2
      refine gx_iconst (v := (0 : Int32)) C dX5_isBetween_14 (by decide) ?_
      exact gx_iret C rfl rfl dX5_isBetween_15 hw
    · replace hw := hw.2 c2
      refine gx_iconst (v := (1 : Int32)) C dX5_isBetween_10 (by decide) ?_
      refine gx_goto (tgt := 15) C dX5_isBetween_11 (by decide) ?_
      exact gx_iret C rfl rfl dX5_isBetween_15 hw
theorem hyS_X5_isBetween : yX5_isBetween.cls ≠ "java/lang/invoke/MethodHandle" ∧ yX5_isBetween.cls ≠ "java/lang/invoke/VarHandle" ∧ (parseMethodDescriptor yX5_isBetween.desc).map (fun d => d.parameters.length) = some 3 := by decide +kernel

theorem dX2_changeSetting_0 : decode cX2_changeSetting 0 = .ok (.iload_n 1, 1) := by decide +kernel
theorem dX2_changeSetting_1 : decode cX2_changeSetting 1 = .ok (.aload_n 0, 1) := by decide +kernel
theorem dX2_changeSetting_2 : decode cX2_changeSetting 2 = .ok (.getfield 9, 3) := by decide +kernel
theorem dX2_changeSetting_5 : decode cX2_changeSetting 5 = .ok (.arraylength, 1) := by decide +kernel
theorem dX2_changeSetting_6 : decode cX2_changeSetting 6 = .ok (.invokestatic 56, 3) := by decide +kernel
theorem dX2_changeSetting_9 : decode cX2_changeSetting 9 = .ok (.ifCond .ne 6, 3) := by decide +kernel
theorem dX2_changeSetting_12 : decode cX2_changeSetting 12 = .ok (.bipush (-2), 2) := by decide +kernel
theorem dX2_changeSetting_14 : decode cX2_changeSetting 14 = .ok (.ireturn, 1) := by decide +kernel
theorem dX2_changeSetting_15 : decode cX2_changeSetting 15 = .ok (.iload_n 2, 1) := by decide +kernel
theorem dX2_changeSetting_16 : decode cX2_changeSetting 16 = .ok (.getstatic 60, 3) := by decide +kernel
theorem dX2_changeSetting_19 : decode cX2_changeSetting 19 = .ok (.iload_n 1, 1) := by decide +kernel
theorem dX2_changeSetting_20 : decode cX2_changeSetting 20 = .ok (.iaload, 1) := by decide +kernel
theorem dX2_changeSetting_21 : decode cX2_changeSetting 21 = .ok (.getstatic 63, 3) := by decide +kernel
theorem dX2_changeSetting_24 : decode cX2_changeSetting 24 = .ok (.iload_n 1, 1) := by decide +kernel
theorem dX2_changeSetting_25 : decode cX2_changeSetting 25 = .ok (.iaload, 1) := by decide +kernel
theorem dX2_changeSetting_26 : decode cX2_changeSetting 26 = .ok (.invokestatic 66, 3) := by decide +kernel
theorem dX2_changeSetting_29 : decode cX2_changeSetting 29 = .ok (.ifCond .ne 6, 3) := by decide +kernel
theorem dX2_changeSetting_32 : decode cX2_changeSetting 32 = .ok (.bipush (-2), 2) := by decide +kernel
theorem dX2_changeSetting_34 : decode cX2_changeSetting 34 = .ok (.ireturn, 1) := by decide +kernel
theorem dX2_changeSetting_35 : decode cX2_changeSetting 35 = .ok (.aload_n 0, 1) := by decide +kernel
theorem dX2_changeSetting_36 : decode cX2_changeSetting 36 = .ok (.getfield 9, 3) := by decide +kernel
theorem dX2_changeSetting_39 : decode cX2_changeSetting 39 = .ok (.iload_n 1, 1) := by decide +kernel
theorem dX2_changeSetting_40 : decode cX2_changeSetting 40 = .ok (.iaload, 1) := by decide +kernel
theorem dX2_changeSetting_41 : decode cX2_changeSetting 41 = .ok (.istore_n 3, 1) := by decide +kernel
theorem dX2_changeSetting_42 : decode cX2_changeSetting 42 = .ok (.aload_n 0, 1) := by decide +kernel
theorem dX2_changeSetting_43 : decode cX2_changeSetting 43 = .ok (.getfield 9, 3) := by decide +kernel
theorem dX2_changeSetting_46 : decode cX2_changeSetting 46 = .ok (.iload_n 1, 1) := by decide +kernel
theorem dX2_changeSetting_47 : decode cX2_changeSetting 47 = .ok (.iload_n 2, 1) := by decide +kernel
theorem dX2_changeSetting_48 : decode cX2_changeSetting 48 = .ok (.iastore, 1) := by decide +kernel
theorem dX2_changeSetting_49 : decode cX2_changeSetting 49 = .ok (.iload_n 3, 1) := by decide +kernel
theorem dX2_changeSetting_50 : decode cX2_changeSetting 50 = .ok (.ireturn, 1) := by decide +kernel
def wp_X2_changeSetting (m : Nat) (x1 : Int32) (x2 : Int32) (σ : Sg) (Q : Int32 → Sg → Prop) : Prop := wp_X5_isIndex x1 (4 : Int32) σ (fun r1 σ2 => ((¬ r1 = 0 → (vp_in x1 4 ∧ (vp_in x1 4 ∧ wp_X5_isBetween x2 (lst x1.toNatClampNeg) (mst x1.toNatClampNeg) σ2 (fun r4 σ5 => ((¬ r4 = 0 → (vp_in x1 4 ∧ ∀ z7 : Int32, z7 = (σ5 m 1 0 x1.toNatClampNeg) → (vp_in x1 4 ∧ ∀ σ8 : Sg, σ8 = up σ5 m 1 0 x1.toNatClampNeg x2 → Q z7 σ8))) ∧ (r4 = 0 → Q (-2 : Int32) σ5)))))) ∧ (r1 = 0 → Q (-2 : Int32) σ2)))
set_option maxRecDepth 100000 in
set_option maxHeartbeats 4000000 in
theorem c_X2_changeSetting (l : Launch) (E : Ev) {m : Nat} {x1 : Int32} {x2 : Int32} (hm : m < 11) {σ : Sg} {Q : Int32 → Sg → Prop} (hw : wp_X2_changeSetting m x1 x2 σ Q) : CT l E yX2_changeSetting cX2_changeSetting 4 (some .int) 1 22 [.ref (ad E m 0 0), .int x1, .int x2] σ (QI E Q) := by
  refine CT_of (by decide) (Nat.le_of_ble_eq_true rfl) (fun X h1 h2 C => ?_)
  subst h1; subst h2
  have C : Cx X cX2_changeSetting "SweetWraps$Machine" (some .int) 1 22 4 (QI (tE X) Q) := C
  show G X σ [(0, .ref (ad (tE X) m 0 0)), (1, .int x1), (2, .int x2)] [] 0
  unfold wp_X2_changeSetting at hw
  refine gx_iload_n C dX2_changeSetting_0 1 rfl ?_
  refine gx_aload_n C dX2_changeSetting_1 0 rfl ?_
  refine gx_get C (ok0 hm) rfl rfl inX2 (ref := "SweetWraps$Machine") 0 (by decide) bw_93 rfl rfl dX2_changeSetting_2 ?_
  refine gx_alen C (ok1 hm) rfl (t0 := 0) rfl (v := (4 : Int32)) rfl dX2_changeSetting_5 ?_
  refine gx_ncalli (As := [.int x1, .int (4 : Int32)]) (rest := []) (host := "SweetWraps") C (c_X5_isIndex _ _ hw) (nest_in _ (by decide +kernel)) bw_226 bw_1 bw_227 hyS_X5_isIndex ⟨by decide, by decide⟩ rfl (Nat.le_of_ble_eq_true rfl) dX2_changeSetting_6 (fun r1 σ2 hw => ?_)
  refine gx_if_ne (tgt := 15) C dX2_changeSetting_9 (by decide) (fun c3 => ?_) (fun c3 => ?_)
  · replace hw := hw.1 c3
    refine gx_iload_n C dX2_changeSetting_15 2 rfl ?_
    refine gx_getsN0 C dX2_changeSetting_16 (nest_in _ (by decide +kernel)) ?_
    refine gx_iload_n C dX2_changeSetting_19 1 rfl ?_
    refine gx_tab0 C hw.1 dX2_changeSetting_20 ?_
    replace hw := hw.2
    refine gx_getsN1 C dX2_changeSetting_21 (nest_in _ (by decide +kernel)) ?_
    refine gx_iload_n C dX2_changeSetting_24 1 rfl ?_
    refine gx_tab1 C hw.1 dX2_changeSetting_25 ?_
    replace hw := hw.2
    refine gx_ncalli (As := [.int x2, .int (lst x1.toNatClampNeg), .int (mst x1.toNatClampNeg)]) (rest := []) (host := "SweetWraps") C (c_X5_isBetween _ _ hw) (nest_in _ (by decide +kernel)) bw_233 bw_1 bw_234 hyS_X5_isBetween ⟨by decide, by decide⟩ rfl (Nat.le_of_ble_eq_true rfl) dX2_changeSetting_26 (fun r4 σ5 hw => ?_)
    refine gx_if_ne (tgt := 35) C dX2_changeSetting_29 (by decide) (fun c6 => ?_) (fun c6 => ?_)
    · replace hw := hw.1 c6
      refine gx_aload_n C dX2_changeSetting_35 0 rfl ?_
      refine gx_get C (ok0 hm) rfl rfl inX2 (ref := "SweetWraps$Machine") 0 (by decide) bw_93 rfl rfl dX2_changeSetting_36 ?_
      refine gx_iload_n C dX2_changeSetting_39 1 rfl ?_
      refine gx_iald C (ok1 hm) rfl hw.1 _ rfl dX2_changeSetting_40 ?_
      replace hw := hw.2
      obtain ⟨z7, e_z7⟩ : ∃ z : Int32, z = (σ5 m 1 0 x1.toNatClampNeg) := ⟨_, rfl⟩
      replace hw := hw z7 e_z7
      refine gx_top e_z7 ?_
      refine gx_istore_n (lv' := [(3, .int z7), (0, .ref (ad (tE X) m 0 0)), (1, .int x1), (2, .int x2)]) C dX2_changeSetting_41 (by decide) rfl ?_
      refine gx_aload_n C dX2_changeSetting_42 1 rfl ?_
      refine gx_get C (ok0 hm) rfl rfl inX2 (ref := "SweetWraps$Machine") 0 (by decide) bw_93 rfl rfl dX2_changeSetting_43 ?_
      refine gx_iload_n C dX2_changeSetting_46 2 rfl ?_
      refine gx_iload_n C dX2_changeSetting_47 3 rfl ?_
      refine gx_iast C (ok1 hm) (fun _ => rfl) hw.1 _ rfl rfl dX2_changeSetting_48 ?_
      replace hw := hw.2
      obtain ⟨σ8, e_σ8⟩ : ∃ z : Sg, z = up σ5 m 1 0 x1.toNatClampNeg x2 := ⟨_, rfl⟩
      replace hw := hw σ8 e_σ8
      refine gx_st e_σ8 ?_
      refine gx_iload_n C dX2_changeSetting_49 0 rfl ?_
      exact gx_iret C rfl rfl dX2_changeSetting_50 hw
    · replace hw := hw.2 c6
      refine gx_bipush (v := (-2 : Int32)) C dX2_changeSetting_32 (by decide) ?_
      exact gx_iret C rfl rfl dX2_changeSetting_34 hw
  · replace hw := hw.2 c3
    refine gx_bipush (v := (-2 : Int32)) C dX2_changeSetting_12 (by decide) ?_
    exact gx_iret C rfl rfl dX2_changeSetting_14 hw
theorem hy_X2_changeSetting : yX2_changeSetting.cls = "SweetWraps$Machine" ∧ yX2_changeSetting.cls ≠ "java/lang/invoke/MethodHandle" ∧ yX2_changeSetting.cls ≠ "java/lang/invoke/VarHandle" ∧ (parseMethodDescriptor yX2_changeSetting.desc).map (fun d => d.parameters.length) = some 2 := by decide +kernel

theorem dX2_addSweets_0 : decode cX2_addSweets 0 = .ok (.iload_n 1, 1) := by decide +kernel
theorem dX2_addSweets_1 : decode cX2_addSweets 1 = .ok (.iconst 4, 1) := by decide +kernel
theorem dX2_addSweets_2 : decode cX2_addSweets 2 = .ok (.invokestatic 56, 3) := by decide +kernel
theorem dX2_addSweets_5 : decode cX2_addSweets 5 = .ok (.ifCond .eq 12, 3) := by decide +kernel
theorem dX2_addSweets_8 : decode cX2_addSweets 8 = .ok (.iload_n 2, 1) := by decide +kernel
theorem dX2_addSweets_9 : decode cX2_addSweets 9 = .ok (.bipush 6, 2) := by decide +kernel
theorem dX2_addSweets_11 : decode cX2_addSweets 11 = .ok (.invokestatic 56, 3) := by decide +kernel
theorem dX2_addSweets_14 : decode cX2_addSweets 14 = .ok (.ifCond .ne 5, 3) := by decide +kernel
theorem dX2_addSweets_17 : decode cX2_addSweets 17 = .ok (.iconst (-1), 1) := by decide +kernel
theorem dX2_addSweets_18 : decode cX2_addSweets 18 = .ok (.ireturn, 1) := by decide +kernel
theorem dX2_addSweets_19 : decode cX2_addSweets 19 = .ok (.iload_n 3, 1) := by decide +kernel
theorem dX2_addSweets_20 : decode cX2_addSweets 20 = .ok (.iconst 1, 1) := by decide +kernel
theorem dX2_addSweets_21 : decode cX2_addSweets 21 = .ok (.sipush 200, 3) := by decide +kernel
theorem dX2_addSweets_24 : decode cX2_addSweets 24 = .ok (.invokestatic 66, 3) := by decide +kernel
theorem dX2_addSweets_27 : decode cX2_addSweets 27 = .ok (.ifCond .ne 6, 3) := by decide +kernel
theorem dX2_addSweets_30 : decode cX2_addSweets 30 = .ok (.bipush (-2), 2) := by decide +kernel
theorem dX2_addSweets_32 : decode cX2_addSweets 32 = .ok (.ireturn, 1) := by decide +kernel
theorem dX2_addSweets_33 : decode cX2_addSweets 33 = .ok (.aload_n 0, 1) := by decide +kernel
theorem dX2_addSweets_34 : decode cX2_addSweets 34 = .ok (.getfield 17, 3) := by decide +kernel
theorem dX2_addSweets_37 : decode cX2_addSweets 37 = .ok (.iload_n 1, 1) := by decide +kernel
theorem dX2_addSweets_38 : decode cX2_addSweets 38 = .ok (.aaload, 1) := by decide +kernel
theorem dX2_addSweets_39 : decode cX2_addSweets 39 = .ok (.iload_n 2, 1) := by decide +kernel
theorem dX2_addSweets_40 : decode cX2_addSweets 40 = .ok (.iload_n 3, 1) := by decide +kernel
theorem dX2_addSweets_41 : decode cX2_addSweets 41 = .ok (.invokevirtual 70, 3) := by decide +kernel
theorem dX2_addSweets_44 : decode cX2_addSweets 44 = .ok (.ireturn, 1) := by decide +kernel
def wp_X2_addSweets (m : Nat) (x1 : Int32) (x2 : Int32) (x3 : Int32) (σ : Sg) (Q : Int32 → Sg → Prop) : Prop := wp_X5_isIndex x1 (4 : Int32) σ (fun r1 σ2 => ((r1 = 0 → Q (-1 : Int32) σ2) ∧ (¬ r1 = 0 → wp_X5_isIndex x2 (6 : Int32) σ2 (fun r4 σ5 => ((¬ r4 = 0 → wp_X5_isBetween x3 (1 : Int32) (200 : Int32) σ5 (fun r7 σ8 => ((¬ r7 = 0 → (vp_in x1 4 ∧ ∀ a11 : Nat, a11 = x1.toNatClampNeg → wp_X1_addSweets m a11 x2 x3 σ8 (fun r12 σ13 => Q r12 σ13))) ∧ (r7 = 0 → Q (-2 : Int32) σ8)))) ∧ (r4 = 0 → Q (-1 : Int32) σ5))))))
set_option maxRecDepth 100000 in
set_option maxHeartbeats 4000000 in
theorem c_X2_addSweets (l : Launch) (E : Ev) {m : Nat} {x1 : Int32} {x2 : Int32} {x3 : Int32} (hm : m < 11) {σ : Sg} {Q : Int32 → Sg → Prop} (hw : wp_X2_addSweets m x1 x2 x3 σ Q) : CT l E yX2_addSweets cX2_addSweets 4 (some .int) 3 66 [.ref (ad E m 0 0), .int x1, .int x2, .int x3] σ (QI E Q) := by
  refine CT_of (by decide) (Nat.le_of_ble_eq_true rfl) (fun X h1 h2 C => ?_)
  subst h1; subst h2
  have C : Cx X cX2_addSweets "SweetWraps$Machine" (some .int) 3 66 4 (QI (tE X) Q) := C
  show G X σ [(0, .ref (ad (tE X) m 0 0)), (1, .int x1), (2, .int x2), (3, .int x3)] [] 0
  unfold wp_X2_addSweets at hw
  refine gx_iload_n C dX2_addSweets_0 1 rfl ?_
  refine gx_iconst (v := (4 : Int32)) C dX2_addSweets_1 (by decide) ?_
  refine gx_ncalli (As := [.int x1, .int (4 : Int32)]) (rest := []) (host := "SweetWraps") C (c_X5_isIndex _ _ hw) (nest_in _ (by decide +kernel)) bw_226 bw_1 bw_227 hyS_X5_isIndex ⟨by decide, by decide⟩ rfl (Nat.le_of_ble_eq_true rfl) dX2_addSweets_2 (fun r1 σ2 hw => ?_)
  refine gx_if_eq (tgt := 17) C dX2_addSweets_5 (by decide) (fun c3 => ?_) (fun c3 => ?_)
  · replace hw := hw.1 c3
    refine gx_iconst (v := (-1 : Int32)) C dX2_addSweets_17 (by decide) ?_
    exact gx_iret C rfl rfl dX2_addSweets_18 hw
  · replace hw := hw.2 c3
    refine gx_iload_n C dX2_addSweets_8 2 rfl ?_
    refine gx_bipush (v := (6 : Int32)) C dX2_addSweets_9 (by decide) ?_
    refine gx_ncalli (As := [.int x2, .int (6 : Int32)]) (rest := []) (host := "SweetWraps") C (c_X5_isIndex _ _ hw) (nest_in _ (by decide +kernel)) bw_226 bw_1 bw_227 hyS_X5_isIndex ⟨by decide, by decide⟩ rfl (Nat.le_of_ble_eq_true rfl) dX2_addSweets_11 (fun r4 σ5 hw => ?_)
    refine gx_if_ne (tgt := 19) C dX2_addSweets_14 (by decide) (fun c6 => ?_) (fun c6 => ?_)
    · replace hw := hw.1 c6
      refine gx_iload_n C dX2_addSweets_19 3 rfl ?_
      refine gx_iconst (v := (1 : Int32)) C dX2_addSweets_20 (by decide) ?_
      refine gx_sipush (v := (200 : Int32)) C dX2_addSweets_21 (by decide) ?_
      refine gx_ncalli (As := [.int x3, .int (1 : Int32), .int (200 : Int32)]) (rest := []) (host := "SweetWraps") C (c_X5_isBetween _ _ hw) (nest_in _ (by decide +kernel)) bw_233 bw_1 bw_234 hyS_X5_isBetween ⟨by decide, by decide⟩ rfl (Nat.le_of_ble_eq_true rfl) dX2_addSweets_24 (fun r7 σ8 hw => ?_)
      refine gx_if_ne (tgt := 33) C dX2_addSweets_27 (by decide) (fun c9 => ?_) (fun c9 => ?_)
      · replace hw := hw.1 c9
        refine gx_aload_n C dX2_addSweets_33 0 rfl ?_
        refine gx_get C (ok0 hm) rfl rfl inX2 (ref := "SweetWraps$Machine") 1 (by decide) bw_95 rfl rfl dX2_addSweets_34 ?_
        refine gx_iload_n C dX2_addSweets_37 1 rfl ?_
        have h10 := hw.1
        replace hw := hw.2
        obtain ⟨a11, e_a11⟩ : ∃ z : Nat, z = x1.toNatClampNeg := ⟨_, rfl⟩
        replace hw := hw a11 e_a11
        have ha11 : a11 < 4 := by rw [e_a11]; exact vp_lt h10
        refine gx_aald C (ok2 hm) rfl (t0 := 3) rfl h10 (v := .ref (ad (tE X) m 5 a11)) (by rw [e_a11]; rfl) dX2_addSweets_38 ?_
        refine gx_iload_n C dX2_addSweets_39 2 rfl ?_
        refine gx_iload_n C dX2_addSweets_40 3 rfl ?_
        refine gx_vcalli (As := [.int x2, .int x3]) (rest := []) C (c_X1_addSweets _ _ hm ha11 hw) (ok5 hm ha11) rfl rfl bw_252 bw_253 bw_254 bw_3 bw_255 hy_X1_addSweets ⟨by decide, by decide⟩ rfl (Nat.le_of_ble_eq_true rfl) dX2_addSweets_41 (fun r12 σ13 hw => ?_)
        exact gx_iret C rfl rfl dX2_addSweets_44 hw
      · replace hw := hw.2 c9
        refine gx_bipush (v := (-2 : Int32)) C dX2_addSweets_30 (by decide) ?_
        exact gx_iret C rfl rfl dX2_addSweets_32 hw
    · replace hw := hw.2 c6
      refine gx_iconst (v := (-1 : Int32)) C dX2_addSweets_17 (by decide) ?_
      exact gx_iret C rfl rfl dX2_addSweets_18 hw
theorem hy_X2_addSweets : yX2_addSweets.cls = "SweetWraps$Machine" ∧ yX2_addSweets.cls ≠ "java/lang/invoke/MethodHandle" ∧ yX2_addSweets.cls ≠ "java/lang/invoke/VarHandle" ∧ (parseMethodDescriptor yX2_addSweets.desc).map (fun d => d.parameters.length) = some 3 := by decide +kernel

theorem dX2_addFoil_0 : decode cX2_addFoil 0 = .ok (.iload_n 1, 1) := by decide +kernel
theorem dX2_addFoil_1 : decode cX2_addFoil 1 = .ok (.iconst 4, 1) := by decide +kernel
theorem dX2_addFoil_2 : decode cX2_addFoil 2 = .ok (.invokestatic 56, 3) := by decide +kernel
theorem dX2_addFoil_5 : decode cX2_addFoil 5 = .ok (.ifCond .ne 5, 3) := by decide +kernel
theorem dX2_addFoil_8 : decode cX2_addFoil 8 = .ok (.iconst (-1), 1) := by decide +kernel
theorem dX2_addFoil_9 : decode cX2_addFoil 9 = .ok (.ireturn, 1) := by decide +kernel
theorem dX2_addFoil_10 : decode cX2_addFoil 10 = .ok (.iload_n 2, 1) := by decide +kernel
theorem dX2_addFoil_11 : decode cX2_addFoil 11 = .ok (.iconst 1, 1) := by decide +kernel
theorem dX2_addFoil_12 : decode cX2_addFoil 12 = .ok (.sipush 999, 3) := by decide +kernel
theorem dX2_addFoil_15 : decode cX2_addFoil 15 = .ok (.invokestatic 66, 3) := by decide +kernel
theorem dX2_addFoil_18 : decode cX2_addFoil 18 = .ok (.ifCond .ne 6, 3) := by decide +kernel
theorem dX2_addFoil_21 : decode cX2_addFoil 21 = .ok (.bipush (-2), 2) := by decide +kernel
theorem dX2_addFoil_23 : decode cX2_addFoil 23 = .ok (.ireturn, 1) := by decide +kernel
theorem dX2_addFoil_24 : decode cX2_addFoil 24 = .ok (.aload_n 0, 1) := by decide +kernel
theorem dX2_addFoil_25 : decode cX2_addFoil 25 = .ok (.getfield 17, 3) := by decide +kernel
theorem dX2_addFoil_28 : decode cX2_addFoil 28 = .ok (.iload_n 1, 1) := by decide +kernel
theorem dX2_addFoil_29 : decode cX2_addFoil 29 = .ok (.aaload, 1) := by decide +kernel
theorem dX2_addFoil_30 : decode cX2_addFoil 30 = .ok (.getfield 74, 3) := by decide +kernel
theorem dX2_addFoil_33 : decode cX2_addFoil 33 = .ok (.iload_n 2, 1) := by decide +kernel
theorem dX2_addFoil_34 : decode cX2_addFoil 34 = .ok (.iadd, 1) := by decide +kernel
theorem dX2_addFoil_35 : decode cX2_addFoil 35 = .ok (.sipush 9999, 3) := by decide +kernel
theorem dX2_addFoil_38 : decode cX2_addFoil 38 = .ok (.if_icmp .le 6, 3) := by decide +kernel
theorem dX2_addFoil_41 : decode cX2_addFoil 41 = .ok (.bipush (-4), 2) := by decide +kernel
theorem dX2_addFoil_43 : decode cX2_addFoil 43 = .ok (.ireturn, 1) := by decide +kernel
theorem dX2_addFoil_44 : decode cX2_addFoil 44 = .ok (.aload_n 0, 1) := by decide +kernel
theorem dX2_addFoil_45 : decode cX2_addFoil 45 = .ok (.getfield 17, 3) := by decide +kernel
theorem dX2_addFoil_48 : decode cX2_addFoil 48 = .ok (.iload_n 1, 1) := by decide +kernel
theorem dX2_addFoil_49 : decode cX2_addFoil 49 = .ok (.aaload, 1) := by decide +kernel
theorem dX2_addFoil_50 : decode cX2_addFoil 50 = .ok (.dup, 1) := by decide +kernel
theorem dX2_addFoil_51 : decode cX2_addFoil 51 = .ok (.getfield 74, 3) := by decide +kernel
theorem dX2_addFoil_54 : decode cX2_addFoil 54 = .ok (.iload_n 2, 1) := by decide +kernel
theorem dX2_addFoil_55 : decode cX2_addFoil 55 = .ok (.iadd, 1) := by decide +kernel
theorem dX2_addFoil_56 : decode cX2_addFoil 56 = .ok (.putfield 74, 3) := by decide +kernel
theorem dX2_addFoil_59 : decode cX2_addFoil 59 = .ok (.aload_n 0, 1) := by decide +kernel
theorem dX2_addFoil_60 : decode cX2_addFoil 60 = .ok (.getfield 17, 3) := by decide +kernel
theorem dX2_addFoil_63 : decode cX2_addFoil 63 = .ok (.iload_n 1, 1) := by decide +kernel
theorem dX2_addFoil_64 : decode cX2_addFoil 64 = .ok (.aaload, 1) := by decide +kernel
theorem dX2_addFoil_65 : decode cX2_addFoil 65 = .ok (.getfield 74, 3) := by decide +kernel
theorem dX2_addFoil_68 : decode cX2_addFoil 68 = .ok (.ireturn, 1) := by decide +kernel
def wp_X2_addFoil (m : Nat) (x1 : Int32) (x2 : Int32) (σ : Sg) (Q : Int32 → Sg → Prop) : Prop := wp_X5_isIndex x1 (4 : Int32) σ (fun r1 σ2 => ((¬ r1 = 0 → wp_X5_isBetween x2 (1 : Int32) (999 : Int32) σ2 (fun r4 σ5 => ((¬ r4 = 0 → (vp_in x1 4 ∧ ∀ a8 : Nat, a8 = x1.toNatClampNeg → ((((σ5 m 5 a8 3) + x2) ≤ (9999 : Int32) → (vp_in x1 4 ∧ ∀ a11 : Nat, a11 = x1.toNatClampNeg → ∀ σ12 : Sg, σ12 = up σ5 m 5 a11 3 ((σ5 m 5 a11 3) + x2) → (vp_in x1 4 ∧ ∀ a14 : Nat, a14 = x1.toNatClampNeg → Q (σ12 m 5 a14 3) σ12))) ∧ (¬ ((σ5 m 5 a8 3) + x2) ≤ (9999 : Int32) → Q (-4 : Int32) σ5)))) ∧ (r4 = 0 → Q (-2 : Int32) σ5)))) ∧ (r1 = 0 → Q (-1 : Int32) σ2)))
set_option maxRecDepth 100000 in
set_option maxHeartbeats 4000000 in
theorem c_X2_addFoil (l : Launch) (E : Ev) {m : Nat} {x1 : Int32} {x2 : Int32} (hm : m < 11) {σ : Sg} {Q : Int32 → Sg → Prop} (hw : wp_X2_addFoil m x1 x2 σ Q) : CT l E yX2_addFoil cX2_addFoil 3 (some .int) 1 22 [.ref (ad E m 0 0), .int x1, .int x2] σ (QI E Q) := by
  refine CT_of (by decide) (Nat.le_of_ble_eq_true rfl) (fun X h1 h2 C => ?_)
  subst h1; subst h2
  have C : Cx X cX2_addFoil "SweetWraps$Machine" (some .int) 1 22 3 (QI (tE X) Q) := C
  show G X σ [(0, .ref (ad (tE X) m 0 0)), (1, .int x1), (2, .int x2)] [] 0
  unfold wp_X2_addFoil at hw
  refine gx_iload_n C dX2_addFoil_0 1 rfl ?_
  refine gx_iconst (v := (4 : Int32)) C dX2_addFoil_1 (by decide) ?_
  refine gx_ncalli (As := [.int x1, .int (4 : Int32)]) (rest := []) (host := "SweetWraps") C (c_X5_isIndex _ _ hw) (nest_in _ (by decide +kernel)) bw_226 bw_1 bw_227 hyS_X5_isIndex ⟨by decide, by decide⟩ rfl (Nat.le_of_ble_eq_true rfl) dX2_addFoil_2 (fun r1 σ2 hw => ?_)
  refine gx_if_ne (tgt := 10) C dX2_addFoil_5 (by decide) (fun c3 => ?_) (fun c3 => ?_)
  · replace hw := hw.1 c3
    refine gx_iload_n C dX2_addFoil_10 2 rfl ?_
    refine gx_iconst (v := (1 : Int32)) C dX2_addFoil_11 (by decide) ?_
    refine gx_sipush (v := (999 : Int32)) C dX2_addFoil_12 (by decide) ?_
    refine gx_ncalli (As := [.int x2, .int (1 : Int32), .int (999 : Int32)]) (rest := []) (host := "SweetWraps") C (c_X5_isBetween _ _ hw) (nest_in _ (by decide +kernel)) bw_233 bw_1 bw_234 hyS_X5_isBetween ⟨by decide, by decide⟩ rfl (Nat.le_of_ble_eq_true rfl) dX2_addFoil_15 (fun r4 σ5 hw => ?_)
    refine gx_if_ne (tgt := 24) C dX2_addFoil_18 (by decide) (fun c6 => ?_) (fun c6 => ?_)
    · replace hw := hw.1 c6
      refine gx_aload_n C dX2_addFoil_24 0 rfl ?_
      refine gx_get C (ok0 hm) rfl rfl inX2 (ref := "SweetWraps$Machine") 1 (by decide) bw_95 rfl rfl dX2_addFoil_25 ?_
      refine gx_iload_n C dX2_addFoil_28 1 rfl ?_
      have h7 := hw.1
      replace hw := hw.2
      obtain ⟨a8, e_a8⟩ : ∃ z : Nat, z = x1.toNatClampNeg := ⟨_, rfl⟩
      replace hw := hw a8 e_a8
      have ha8 : a8 < 4 := by rw [e_a8]; exact vp_lt h7
      refine gx_aald C (ok2 hm) rfl (t0 := 3) rfl h7 (v := .ref (ad (tE X) m 5 a8)) (by rw [e_a8]; rfl) dX2_addFoil_29 ?_
      refine gx_get C (ok5 hm ha8) rfl rfl inX1 (ref := "SweetWraps$Lane") 3 (by decide) bw_44 rfl rfl dX2_addFoil_30 ?_
      refine gx_iload_n C dX2_addFoil_33 2 rfl ?_
      refine gx_iadd C dX2_addFoil_34 ?_
      refine gx_sipush (v := (9999 : Int32)) C dX2_addFoil_35 (by decide) ?_
      refine gx_icmp_le (tgt := 44) C dX2_addFoil_38 (by decide) (fun c9 => ?_) (fun c9 => ?_)
      · replace hw := hw.1 c9
        refine gx_aload_n C dX2_addFoil_44 0 rfl ?_
        refine gx_get C (ok0 hm) rfl rfl inX2 (ref := "SweetWraps$Machine") 1 (by decide) bw_95 rfl rfl dX2_addFoil_45 ?_
        refine gx_iload_n C dX2_addFoil_48 1 rfl ?_
        have h10 := hw.1
        replace hw := hw.2
        obtain ⟨a11, e_a11⟩ : ∃ z : Nat, z = x1.toNatClampNeg := ⟨_, rfl⟩
        replace hw := hw a11 e_a11
        have ha11 : a11 < 4 := by rw [e_a11]; exact vp_lt h10
        refine gx_aald C (ok2 hm) rfl (t0 := 3) rfl h10 (v := .ref (ad (tE X) m 5 a11)) (by rw [e_a11]; rfl) dX2_addFoil_49 ?_
        refine gx_dup C dX2_addFoil_50 rfl ?_
        refine gx_get C (ok5 hm ha11) rfl rfl inX1 (ref := "SweetWraps$Lane") 3 (by decide) bw_44 rfl rfl dX2_addFoil_51 ?_
        refine gx_iload_n C dX2_addFoil_54 2 rfl ?_
        refine gx_iadd C dX2_addFoil_55 ?_
        refine gx_put C (ok5 hm ha11) rfl rfl inX1 tyX1 tyX1_ok nmX1 (ref := "SweetWraps$Lane") 3 (by decide) bw_44 rfl rfl (v := .int ((σ5 m 5 a11 3) + x2)) rfl rfl (Nat.le_of_ble_eq_true rfl) (upd (σ5 m 5 a11) 3 ((σ5 m 5 a11 3) + x2)) rfl dX2_addFoil_56 ?_
        obtain ⟨σ12, e_σ12⟩ : ∃ z : Sg, z = up σ5 m 5 a11 3 ((σ5 m 5 a11 3) + x2) := ⟨_, rfl⟩
        replace hw := hw σ12 e_σ12
        refine gx_st e_σ12 ?_
        refine gx_aload_n C dX2_addFoil_59 0 rfl ?_
        refine gx_get C (ok0 hm) rfl rfl inX2 (ref := "SweetWraps$Machine") 1 (by decide) bw_95 rfl rfl dX2_addFoil_60 ?_
        refine gx_iload_n C dX2_addFoil_63 1 rfl ?_
        have h13 := hw.1
        replace hw := hw.2
        obtain ⟨a14, e_a14⟩ : ∃ z : Nat, z = x1.toNatClampNeg := ⟨_, rfl⟩
        replace hw := hw a14 e_a14
        have ha14 : a14 < 4 := by rw [e_a14]; exact vp_lt h13
        refine gx_aald C (ok2 hm) rfl (t0 := 3) rfl h13 (v := .ref (ad (tE X) m 5 a14)) (by rw [e_a14]; rfl) dX2_addFoil_64 ?_
        refine gx_get C (ok5 hm ha14) rfl rfl inX1 (ref := "SweetWraps$Lane") 3 (by decide) bw_44 rfl rfl dX2_addFoil_65 ?_
        exact gx_iret C rfl rfl dX2_addFoil_68 hw
      · replace hw := hw.2 c9
        refine gx_bipush (v := (-4 : Int32)) C dX2_addFoil_41 (by decide) ?_
        exact gx_iret C rfl rfl dX2_addFoil_43 hw
    · replace hw := hw.2 c6
      refine gx_bipush (v := (-2 : Int32)) C dX2_addFoil_21 (by decide) ?_
      exact gx_iret C rfl rfl dX2_addFoil_23 hw
  · replace hw := hw.2 c3
    refine gx_iconst (v := (-1 : Int32)) C dX2_addFoil_8 (by decide) ?_
    exact gx_iret C rfl rfl dX2_addFoil_9 hw
theorem hy_X2_addFoil : yX2_addFoil.cls = "SweetWraps$Machine" ∧ yX2_addFoil.cls ≠ "java/lang/invoke/MethodHandle" ∧ yX2_addFoil.cls ≠ "java/lang/invoke/VarHandle" ∧ (parseMethodDescriptor yX2_addFoil.desc).map (fun d => d.parameters.length) = some 2 := by decide +kernel

theorem dX2_addTin_0 : decode cX2_addTin 0 = .ok (.aload_n 0, 1) := by decide +kernel
theorem dX2_addTin_1 : decode cX2_addTin 1 = .ok (.getfield 43, 3) := by decide +kernel
theorem dX2_addTin_4 : decode cX2_addTin 4 = .ok (.bipush 16, 2) := by decide +kernel
theorem dX2_addTin_6 : decode cX2_addTin 6 = .ok (.if_icmp .lt 6, 3) := by decide +kernel
theorem dX2_addTin_9 : decode cX2_addTin 9 = .ok (.bipush (-4), 2) := by decide +kernel
theorem dX2_addTin_11 : decode cX2_addTin 11 = .ok (.ireturn, 1) := by decide +kernel
theorem dX2_addTin_12 : decode cX2_addTin 12 = .ok (.aload_n 0, 1) := by decide +kernel
theorem dX2_addTin_13 : decode cX2_addTin 13 = .ok (.dup, 1) := by decide +kernel
theorem dX2_addTin_14 : decode cX2_addTin 14 = .ok (.getfield 43, 3) := by decide +kernel
theorem dX2_addTin_17 : decode cX2_addTin 17 = .ok (.iconst 1, 1) := by decide +kernel
theorem dX2_addTin_18 : decode cX2_addTin 18 = .ok (.iadd, 1) := by decide +kernel
theorem dX2_addTin_19 : decode cX2_addTin 19 = .ok (.putfield 43, 3) := by decide +kernel
theorem dX2_addTin_22 : decode cX2_addTin 22 = .ok (.aload_n 0, 1) := by decide +kernel
theorem dX2_addTin_23 : decode cX2_addTin 23 = .ok (.getfield 43, 3) := by decide +kernel
theorem dX2_addTin_26 : decode cX2_addTin 26 = .ok (.iconst 1, 1) := by decide +kernel
theorem dX2_addTin_27 : decode cX2_addTin 27 = .ok (.isub, 1) := by decide +kernel
theorem dX2_addTin_28 : decode cX2_addTin 28 = .ok (.ireturn, 1) := by decide +kernel
def wp_X2_addTin (m : Nat) (σ : Sg) (Q : Int32 → Sg → Prop) : Prop := (((σ m 0 0 4) < (16 : Int32) → ∀ σ2 : Sg, σ2 = up σ m 0 0 4 ((σ m 0 0 4) + (1 : Int32)) → Q ((σ2 m 0 0 4) - (1 : Int32)) σ2) ∧ (¬ (σ m 0 0 4) < (16 : Int32) → Q (-4 : Int32) σ))
set_option maxRecDepth 100000 in
set_option maxHeartbeats 4000000 in
theorem c_X2_addTin (l : Launch) (E : Ev) {m : Nat} (hm : m < 11) {σ : Sg} {Q : Int32 → Sg → Prop} (hw : wp_X2_addTin m σ Q) : CT l E yX2_addTin cX2_addTin 1 (some .int) 0 0 [.ref (ad E m 0 0)] σ (QI E Q) := by
  refine CT_of (by decide) (Nat.le_of_ble_eq_true rfl) (fun X h1 h2 C => ?_)
  subst h1; subst h2
  have C : Cx X cX2_addTin "SweetWraps$Machine" (some .int) 0 0 1 (QI (tE X) Q) := C
  show G X σ [(0, .ref (ad (tE X) m 0 0))] [] 0
  unfold wp_X2_addTin at hw
  refine gx_aload_n C dX2_addTin_0 0 rfl ?_
  refine gx_get C (ok0 hm) rfl rfl inX2 (ref := "SweetWraps$Machine") 4 (by decide) bw_99 rfl rfl dX2_addTin_1 ?_
  refine gx_bipush (v := (16 : Int32)) C dX2_addTin_4 (by decide) ?_
  refine gx_icmp_lt (tgt := 12) C dX2_addTin_6 (by decide) (fun c1 => ?_) (fun c1 => ?_)
  · replace hw := hw.1 c1
    refine gx_aload_n C dX2_addTin_12 0 rfl ?_
    refine gx_dup C dX2_addTin_13 rfl ?_
    refine gx_get C (ok0 hm) rfl rfl inX2 (ref := "SweetWraps$Machine") 4 (by decide) bw_99 rfl rfl dX2_addTin_14 ?_
    refine gx_iconst (v := (1 : Int32)) C dX2_addTin_17 (by decide) ?_
    refine gx_iadd C dX2_addTin_18 ?_
    refine gx_put C (ok0 hm) rfl rfl inX2 tyX2 tyX2_ok nmX2 (ref := "SweetWraps$Machine") 4 (by decide) bw_99 rfl rfl (v := .int ((σ m 0 0 4) + (1 : Int32))) rfl rfl (Nat.le_of_ble_eq_true rfl) (upd (σ m 0 0) 4 ((σ m 0 0 4) + (1 : Int32))) rfl dX2_addTin_19 ?_
    obtain ⟨σ2, e_σ2⟩ : ∃ z : Sg, z = up σ m 0 0 4 ((σ m 0 0 4) + (1 : Int32)) := ⟨_, rfl⟩
    replace hw := hw σ2 e_σ2
    refine gx_st e_σ2 ?_
    refine gx_aload_n C dX2_addTin_22 0 rfl ?_
    refine gx_get C (ok0 hm) rfl rfl inX2 (ref := "SweetWraps$Machine") 4 (by decide) bw_99 rfl rfl dX2_addTin_23 ?_
    refine gx_iconst (v := (1 : Int32)) C dX2_addTin_26 (by decide) ?_
    refine gx_isub C dX2_addTin_27 ?_
    exact gx_iret C rfl rfl dX2_addTin_28 hw
  · replace hw := hw.2 c1
    refine gx_bipush (v := (-4 : Int32)) C dX2_addTin_9 (by decide) ?_
    exact gx_iret C rfl rfl dX2_addTin_11 hw
theorem hy_X2_addTin : yX2_addTin.cls = "SweetWraps$Machine" ∧ yX2_addTin.cls ≠ "java/lang/invoke/MethodHandle" ∧ yX2_addTin.cls ≠ "java/lang/invoke/VarHandle" ∧ (parseMethodDescriptor yX2_addTin.desc).map (fun d => d.parameters.length) = some 0 := by decide +kernel

theorem dX2_isTin_0 : decode cX2_isTin 0 = .ok (.iload_n 1, 1) := by decide +kernel
theorem dX2_isTin_1 : decode cX2_isTin 1 = .ok (.aload_n 0, 1) := by decide +kernel
theorem dX2_isTin_2 : decode cX2_isTin 2 = .ok (.getfield 43, 3) := by decide +kernel
theorem dX2_isTin_5 : decode cX2_isTin 5 = .ok (.invokestatic 56, 3) := by decide +kernel
theorem dX2_isTin_8 : decode cX2_isTin 8 = .ok (.ifCond .eq 13, 3) := by decide +kernel
theorem dX2_isTin_11 : decode cX2_isTin 11 = .ok (.iload_n 1, 1) := by decide +kernel
theorem dX2_isTin_12 : decode cX2_isTin 12 = .ok (.bipush 16, 2) := by decide +kernel
theorem dX2_isTin_14 : decode cX2_isTin 14 = .ok (.if_icmp .ge 7, 3) := by decide +kernel
theorem dX2_isTin_17 : decode cX2_isTin 17 = .ok (.iconst 1, 1) := by decide +kernel
theorem dX2_isTin_18 : decode cX2_isTin 18 = .ok (.goto 4, 3) := by decide +kernel
theorem dX2_isTin_21 : decode cX2_isTin 21 = .ok (.iconst 0, 1) := by decide +kernel
theorem dX2_isTin_22 : decode cX2_isTin 22 = .ok (.ireturn, 1) := by decide +kernel
def wp_X2_isTin (m : Nat) (x1 : Int32) (σ : Sg) (Q : Int32 → Sg → Prop) : Prop := wp_X5_isIndex x1 (σ m 0 0 4) σ (fun r1 σ2 => ((r1 = 0 → Q (0 : Int32) σ2) ∧ (¬ r1 = 0 → (((16 : Int32) ≤ x1 → Q (0 : Int32) σ2) ∧ (¬ (16 : Int32) ≤ x1 → Q (1 : Int32) σ2)))))
set_option maxRecDepth 100000 in
set_option maxHeartbeats 4000000 in
theorem c_X2_isTin (l : Launch) (E : Ev) {m : Nat} {x1 : Int32} (hm : m < 11) {σ : Sg} {Q : Int32 → Sg → Prop} (hw : wp_X2_isTin m x1 σ Q) : CT l E yX2_isTin cX2_isTin 2 (some .boolean) 1 21 [.ref (ad E m 0 0), .int x1] σ (QI E Q) := by
  refine CT_of (by decide) (Nat.le_of_ble_eq_true rfl) (fun X h1 h2 C => ?_)
  subst h1; subst h2
  have C : Cx X cX2_isTin "SweetWraps$Machine" (some .boolean) 1 21 2 (QI (tE X) Q) := C
  show G X σ [(0, .ref (ad (tE X) m 0 0)), (1, .int x1)] [] 0
  unfold wp_X2_isTin at hw
  refine gx_iload_n C dX2_isTin_0 1 rfl ?_
  refine gx_aload_n C dX2_isTin_1 0 rfl ?_
  refine gx_get C (ok0 hm) rfl rfl inX2 (ref := "SweetWraps$Machine") 4 (by decide) bw_99 rfl rfl dX2_isTin_2 ?_
  refine gx_ncalli (As := [.int x1, .int (σ m 0 0 4)]) (rest := []) (host := "SweetWraps") C (c_X5_isIndex _ _ hw) (nest_in _ (by decide +kernel)) bw_226 bw_1 bw_227 hyS_X5_isIndex ⟨by decide, by decide⟩ rfl (Nat.le_of_ble_eq_true rfl) dX2_isTin_5 (fun r1 σ2 hw => ?_)
  refine gx_if_eq (tgt := 21) C dX2_isTin_8 (by decide) (fun c3 => ?_) (fun c3 => ?_)
  · replace hw := hw.1 c3
    refine gx_iconst (v := (0 : Int32)) C dX2_isTin_21 (by decide) ?_
    exact gx_iret C rfl rfl dX2_isTin_22 hw
  · replace hw := hw.2 c3
    refine gx_iload_n C dX2_isTin_11 1 rfl ?_
    refine gx_bipush (v := (16 : Int32)) C dX2_isTin_12 (by decide) ?_
    refine gx_icmp_ge (tgt := 21) C dX2_isTin_14 (by decide) (fun c4 => ?_) (fun c4 => ?_)
    · replace hw := hw.1 c4
      refine gx_iconst (v := (0 : Int32)) C dX2_isTin_21 (by decide) ?_
      exact gx_iret C rfl rfl dX2_isTin_22 hw
    · replace hw := hw.2 c4
      refine gx_iconst (v := (1 : Int32)) C dX2_isTin_17 (by decide) ?_
      refine gx_goto (tgt := 22) C dX2_isTin_18 (by decide) ?_
      exact gx_iret C rfl rfl dX2_isTin_22 hw
theorem hy_X2_isTin : yX2_isTin.cls = "SweetWraps$Machine" ∧ yX2_isTin.cls ≠ "java/lang/invoke/MethodHandle" ∧ yX2_isTin.cls ≠ "java/lang/invoke/VarHandle" ∧ (parseMethodDescriptor yX2_isTin.desc).map (fun d => d.parameters.length) = some 1 := by decide +kernel

theorem dX2_shipTin_0 : decode cX2_shipTin 0 = .ok (.aload_n 0, 1) := by decide +kernel
theorem dX2_shipTin_1 : decode cX2_shipTin 1 = .ok (.iload_n 1, 1) := by decide +kernel
theorem dX2_shipTin_2 : decode cX2_shipTin 2 = .ok (.invokevirtual 77, 3) := by decide +kernel
theorem dX2_shipTin_5 : decode cX2_shipTin 5 = .ok (.ifCond .ne 5, 3) := by decide +kernel
theorem dX2_shipTin_8 : decode cX2_shipTin 8 = .ok (.iconst (-1), 1) := by decide +kernel
theorem dX2_shipTin_9 : decode cX2_shipTin 9 = .ok (.ireturn, 1) := by decide +kernel
theorem dX2_shipTin_10 : decode cX2_shipTin 10 = .ok (.aload_n 0, 1) := by decide +kernel
theorem dX2_shipTin_11 : decode cX2_shipTin 11 = .ok (.getfield 23, 3) := by decide +kernel
theorem dX2_shipTin_14 : decode cX2_shipTin 14 = .ok (.iload_n 1, 1) := by decide +kernel
theorem dX2_shipTin_15 : decode cX2_shipTin 15 = .ok (.aaload, 1) := by decide +kernel
theorem dX2_shipTin_16 : decode cX2_shipTin 16 = .ok (.getfield 81, 3) := by decide +kernel
theorem dX2_shipTin_19 : decode cX2_shipTin 19 = .ok (.ifCond .ne 15, 3) := by decide +kernel
theorem dX2_shipTin_22 : decode cX2_shipTin 22 = .ok (.aload_n 0, 1) := by decide +kernel
theorem dX2_shipTin_23 : decode cX2_shipTin 23 = .ok (.getfield 23, 3) := by decide +kernel
theorem dX2_shipTin_26 : decode cX2_shipTin 26 = .ok (.iload_n 1, 1) := by decide +kernel
theorem dX2_shipTin_27 : decode cX2_shipTin 27 = .ok (.aaload, 1) := by decide +kernel
theorem dX2_shipTin_28 : decode cX2_shipTin 28 = .ok (.getfield 85, 3) := by decide +kernel
theorem dX2_shipTin_31 : decode cX2_shipTin 31 = .ok (.ifCond .ne 6, 3) := by decide +kernel
theorem dX2_shipTin_34 : decode cX2_shipTin 34 = .ok (.bipush (-5), 2) := by decide +kernel
theorem dX2_shipTin_36 : decode cX2_shipTin 36 = .ok (.ireturn, 1) := by decide +kernel
theorem dX2_shipTin_37 : decode cX2_shipTin 37 = .ok (.aload_n 0, 1) := by decide +kernel
theorem dX2_shipTin_38 : decode cX2_shipTin 38 = .ok (.getfield 23, 3) := by decide +kernel
theorem dX2_shipTin_41 : decode cX2_shipTin 41 = .ok (.iload_n 1, 1) := by decide +kernel
theorem dX2_shipTin_42 : decode cX2_shipTin 42 = .ok (.aaload, 1) := by decide +kernel
theorem dX2_shipTin_43 : decode cX2_shipTin 43 = .ok (.iconst 1, 1) := by decide +kernel
theorem dX2_shipTin_44 : decode cX2_shipTin 44 = .ok (.putfield 81, 3) := by decide +kernel
theorem dX2_shipTin_47 : decode cX2_shipTin 47 = .ok (.aload_n 0, 1) := by decide +kernel
theorem dX2_shipTin_48 : decode cX2_shipTin 48 = .ok (.getfield 23, 3) := by decide +kernel
theorem dX2_shipTin_51 : decode cX2_shipTin 51 = .ok (.iload_n 1, 1) := by decide +kernel
theorem dX2_shipTin_52 : decode cX2_shipTin 52 = .ok (.aaload, 1) := by decide +kernel
theorem dX2_shipTin_53 : decode cX2_shipTin 53 = .ok (.getfield 85, 3) := by decide +kernel
theorem dX2_shipTin_56 : decode cX2_shipTin 56 = .ok (.ireturn, 1) := by decide +kernel
def wp_X2_shipTin (m : Nat) (x1 : Int32) (σ : Sg) (Q : Int32 → Sg → Prop) : Prop := wp_X2_isTin m x1 σ (fun r1 σ2 => ((¬ r1 = 0 → (vp_in x1 16 ∧ ∀ a5 : Nat, a5 = x1.toNatClampNeg → ((¬ (σ2 m 8 a5 3) = 0 → Q (-5 : Int32) σ2) ∧ ((σ2 m 8 a5 3) = 0 → (vp_in x1 16 ∧ ∀ a8 : Nat, a8 = x1.toNatClampNeg → ((¬ (σ2 m 8 a8 2) = 0 → (vp_in x1 16 ∧ ∀ a11 : Nat, a11 = x1.toNatClampNeg → ∀ σ12 : Sg, σ12 = up σ2 m 8 a11 3 (1 : Int32) → (vp_in x1 16 ∧ ∀ a14 : Nat, a14 = x1.toNatClampNeg → Q (σ12 m 8 a14 2) σ12))) ∧ ((σ2 m 8 a8 2) = 0 → Q (-5 : Int32) σ2))))))) ∧ (r1 = 0 → Q (-1 : Int32) σ2)))
set_option maxRecDepth 100000 in
set_option maxHeartbeats 4000000 in
theorem c_X2_shipTin (l : Launch) (E : Ev) {m : Nat} {x1 : Int32} (hm : m < 11) {σ : Sg} {Q : Int32 → Sg → Prop} (hw : wp_X2_shipTin m x1 σ Q) : CT l E yX2_shipTin cX2_shipTin 2 (some .int) 2 42 [.ref (ad E m 0 0), .int x1] σ (QI E Q) := by
  refine CT_of (by decide) (Nat.le_of_ble_eq_true rfl) (fun X h1 h2 C => ?_)
  subst h1; subst h2
  have C : Cx X cX2_shipTin "SweetWraps$Machine" (some .int) 2 42 2 (QI (tE X) Q) := C
  show G X σ [(0, .ref (ad (tE X) m 0 0)), (1, .int x1)] [] 0
  unfold wp_X2_shipTin at hw
  refine gx_aload_n C dX2_shipTin_0 0 rfl ?_
  refine gx_iload_n C dX2_shipTin_1 1 rfl ?_
  refine gx_vcalli (As := [.int x1]) (rest := []) C (c_X2_isTin _ _ hm hw) (ok0 hm) rfl rfl bw_289 bw_291 bs_1 bw_2 bw_292 hy_X2_isTin ⟨by decide, by decide⟩ rfl (Nat.le_of_ble_eq_true rfl) dX2_shipTin_2 (fun r1 σ2 hw => ?_)
  refine gx_if_ne (tgt := 10) C dX2_shipTin_5 (by decide) (fun c3 => ?_) (fun c3 => ?_)
  · replace hw := hw.1 c3
    refine gx_aload_n C dX2_shipTin_10 0 rfl ?_
    refine gx_get C (ok0 hm) rfl rfl inX2 (ref := "SweetWraps$Machine") 2 (by decide) bw_97 rfl rfl dX2_shipTin_11 ?_
    refine gx_iload_n C dX2_shipTin_14 1 rfl ?_
    have h4 := hw.1
    replace hw := hw.2
    obtain ⟨a5, e_a5⟩ : ∃ z : Nat, z = x1.toNatClampNeg := ⟨_, rfl⟩
    replace hw := hw a5 e_a5
    have ha5 : a5 < 16 := by rw [e_a5]; exact vp_lt h4
    refine gx_aald C (ok3 hm) rfl (t0 := 4) rfl h4 (v := .ref (ad (tE X) m 8 a5)) (by rw [e_a5]; rfl) dX2_shipTin_15 ?_
    refine gx_get C (ok8 hm ha5) rfl rfl inX4 (ref := "SweetWraps$Tin") 3 (by decide) bw_83 rfl rfl dX2_shipTin_16 ?_
    refine gx_if_ne (tgt := 34) C dX2_shipTin_19 (by decide) (fun c6 => ?_) (fun c6 => ?_)
    · replace hw := hw.1 c6
      refine gx_bipush (v := (-5 : Int32)) C dX2_shipTin_34 (by decide) ?_
      exact gx_iret C rfl rfl dX2_shipTin_36 hw
    · replace hw := hw.2 c6
      refine gx_aload_n C dX2_shipTin_22 0 rfl ?_
      refine gx_get C (ok0 hm) rfl rfl inX2 (ref := "SweetWraps$Machine") 2 (by decide) bw_97 rfl rfl dX2_shipTin_23 ?_
      refine gx_iload_n C dX2_shipTin_26 1 rfl ?_
      have h7 := hw.1
      replace hw := hw.2
      obtain ⟨a8, e_a8⟩ : ∃ z : Nat, z = x1.toNatClampNeg := ⟨_, rfl⟩
      replace hw := hw a8 e_a8
      have ha8 : a8 < 16 := by rw [e_a8]; exact vp_lt h7
      refine gx_aald C (ok3 hm) rfl (t0 := 4) rfl h7 (v := .ref (ad (tE X) m 8 a8)) (by rw [e_a8]; rfl) dX2_shipTin_27 ?_
      refine gx_get C (ok8 hm ha8) rfl rfl inX4 (ref := "SweetWraps$Tin") 2 (by decide) bw_81 rfl rfl dX2_shipTin_28 ?_
      refine gx_if_ne (tgt := 37) C dX2_shipTin_31 (by decide) (fun c9 => ?_) (fun c9 => ?_)
      · replace hw := hw.1 c9
        refine gx_aload_n C dX2_shipTin_37 0 rfl ?_
        refine gx_get C (ok0 hm) rfl rfl inX2 (ref := "SweetWraps$Machine") 2 (by decide) bw_97 rfl rfl dX2_shipTin_38 ?_
        refine gx_iload_n C dX2_shipTin_41 1 rfl ?_
        have h10 := hw.1
        replace hw := hw.2
        obtain ⟨a11, e_a11⟩ : ∃ z : Nat, z = x1.toNatClampNeg := ⟨_, rfl⟩
        replace hw := hw a11 e_a11
        have ha11 : a11 < 16 := by rw [e_a11]; exact vp_lt h10
        refine gx_aald C (ok3 hm) rfl (t0 := 4) rfl h10 (v := .ref (ad (tE X) m 8 a11)) (by rw [e_a11]; rfl) dX2_shipTin_42 ?_
        refine gx_iconst (v := (1 : Int32)) C dX2_shipTin_43 (by decide) ?_
        refine gx_put C (ok8 hm ha11) rfl rfl inX4 tyX4 tyX4_ok nmX4 (ref := "SweetWraps$Tin") 3 (by decide) bw_83 rfl rfl (v := .int (1 : Int32)) rfl rfl (Nat.le_of_ble_eq_true rfl) (upd (σ2 m 8 a11) 3 (1 : Int32)) rfl dX2_shipTin_44 ?_
        obtain ⟨σ12, e_σ12⟩ : ∃ z : Sg, z = up σ2 m 8 a11 3 (1 : Int32) := ⟨_, rfl⟩
        replace hw := hw σ12 e_σ12
        refine gx_st e_σ12 ?_
        refine gx_aload_n C dX2_shipTin_47 0 rfl ?_
        refine gx_get C (ok0 hm) rfl rfl inX2 (ref := "SweetWraps$Machine") 2 (by decide) bw_97 rfl rfl dX2_shipTin_48 ?_
        refine gx_iload_n C dX2_shipTin_51 1 rfl ?_
        have h13 := hw.1
        replace hw := hw.2
        obtain ⟨a14, e_a14⟩ : ∃ z : Nat, z = x1.toNatClampNeg := ⟨_, rfl⟩
        replace hw := hw a14 e_a14
        have ha14 : a14 < 16 := by rw [e_a14]; exact vp_lt h13
        refine gx_aald C (ok3 hm) rfl (t0 := 4) rfl h13 (v := .ref (ad (tE X) m 8 a14)) (by rw [e_a14]; rfl) dX2_shipTin_52 ?_
        refine gx_get C (ok8 hm ha14) rfl rfl inX4 (ref := "SweetWraps$Tin") 2 (by decide) bw_81 rfl rfl dX2_shipTin_53 ?_
        exact gx_iret C rfl rfl dX2_shipTin_56 hw
      · replace hw := hw.2 c9
        refine gx_bipush (v := (-5 : Int32)) C dX2_shipTin_34 (by decide) ?_
        exact gx_iret C rfl rfl dX2_shipTin_36 hw
  · replace hw := hw.2 c3
    refine gx_iconst (v := (-1 : Int32)) C dX2_shipTin_8 (by decide) ?_
    exact gx_iret C rfl rfl dX2_shipTin_9 hw
theorem hy_X2_shipTin : yX2_shipTin.cls = "SweetWraps$Machine" ∧ yX2_shipTin.cls ≠ "java/lang/invoke/MethodHandle" ∧ yX2_shipTin.cls ≠ "java/lang/invoke/VarHandle" ∧ (parseMethodDescriptor yX2_shipTin.desc).map (fun d => d.parameters.length) = some 1 := by decide +kernel

theorem dX2_isOpen_0 : decode cX2_isOpen 0 = .ok (.aload_n 0, 1) := by decide +kernel
theorem dX2_isOpen_1 : decode cX2_isOpen 1 = .ok (.iload_n 1, 1) := by decide +kernel
theorem dX2_isOpen_2 : decode cX2_isOpen 2 = .ok (.invokevirtual 77, 3) := by decide +kernel
theorem dX2_isOpen_5 : decode cX2_isOpen 5 = .ok (.ifCond .eq 19, 3) := by decide +kernel
theorem dX2_isOpen_8 : decode cX2_isOpen 8 = .ok (.aload_n 0, 1) := by decide +kernel
theorem dX2_isOpen_9 : decode cX2_isOpen 9 = .ok (.getfield 23, 3) := by decide +kernel
theorem dX2_isOpen_12 : decode cX2_isOpen 12 = .ok (.iload_n 1, 1) := by decide +kernel
theorem dX2_isOpen_13 : decode cX2_isOpen 13 = .ok (.aaload, 1) := by decide +kernel
theorem dX2_isOpen_14 : decode cX2_isOpen 14 = .ok (.getfield 81, 3) := by decide +kernel
theorem dX2_isOpen_17 : decode cX2_isOpen 17 = .ok (.ifCond .ne 7, 3) := by decide +kernel
theorem dX2_isOpen_20 : decode cX2_isOpen 20 = .ok (.iconst 1, 1) := by decide +kernel
theorem dX2_isOpen_21 : decode cX2_isOpen 21 = .ok (.goto 4, 3) := by decide +kernel
theorem dX2_isOpen_24 : decode cX2_isOpen 24 = .ok (.iconst 0, 1) := by decide +kernel
theorem dX2_isOpen_25 : decode cX2_isOpen 25 = .ok (.ireturn, 1) := by decide +kernel
def wp_X2_isOpen (m : Nat) (x1 : Int32) (σ : Sg) (Q : Int32 → Sg → Prop) : Prop := wp_X2_isTin m x1 σ (fun r1 σ2 => ((r1 = 0 → Q (0 : Int32) σ2) ∧ (¬ r1 = 0 → (vp_in x1 16 ∧ ∀ a5 : Nat, a5 = x1.toNatClampNeg → ((¬ (σ2 m 8 a5 3) = 0 → Q (0 : Int32) σ2) ∧ ((σ2 m 8 a5 3) = 0 → Q (1 : Int32) σ2))))))
set_option maxRecDepth 100000 in
set_option maxHeartbeats 4000000 in
theorem c_X2_isOpen (l : Launch) (E : Ev) {m : Nat} {x1 : Int32} (hm : m < 11) {σ : Sg} {Q : Int32 → Sg → Prop} (hw : wp_X2_isOpen m x1 σ Q) : CT l E yX2_isOpen cX2_isOpen 2 (some .boolean) 2 42 [.ref (ad E m 0 0), .int x1] σ (QI E Q) := by
  refine CT_of (by decide) (Nat.le_of_ble_eq_true rfl) (fun X h1 h2 C => ?_)
  subst h1; subst h2
  have C : Cx X cX2_isOpen "SweetWraps$Machine" (some .boolean) 2 42 2 (QI (tE X) Q) := C
  show G X σ [(0, .ref (ad (tE X) m 0 0)), (1, .int x1)] [] 0
  unfold wp_X2_isOpen at hw
  refine gx_aload_n C dX2_isOpen_0 0 rfl ?_
  refine gx_iload_n C dX2_isOpen_1 1 rfl ?_
  refine gx_vcalli (As := [.int x1]) (rest := []) C (c_X2_isTin _ _ hm hw) (ok0 hm) rfl rfl bw_289 bw_291 bs_1 bw_2 bw_292 hy_X2_isTin ⟨by decide, by decide⟩ rfl (Nat.le_of_ble_eq_true rfl) dX2_isOpen_2 (fun r1 σ2 hw => ?_)
  refine gx_if_eq (tgt := 24) C dX2_isOpen_5 (by decide) (fun c3 => ?_) (fun c3 => ?_)
  · replace hw := hw.1 c3
    refine gx_iconst (v := (0 : Int32)) C dX2_isOpen_24 (by decide) ?_
    exact gx_iret C rfl rfl dX2_isOpen_25 hw
  · replace hw := hw.2 c3
    refine gx_aload_n C dX2_isOpen_8 0 rfl ?_
    refine gx_get C (ok0 hm) rfl rfl inX2 (ref := "SweetWraps$Machine") 2 (by decide) bw_97 rfl rfl dX2_isOpen_9 ?_
    refine gx_iload_n C dX2_isOpen_12 1 rfl ?_
    have h4 := hw.1
    replace hw := hw.2
    obtain ⟨a5, e_a5⟩ : ∃ z : Nat, z = x1.toNatClampNeg := ⟨_, rfl⟩
    replace hw := hw a5 e_a5
    have ha5 : a5 < 16 := by rw [e_a5]; exact vp_lt h4
    refine gx_aald C (ok3 hm) rfl (t0 := 4) rfl h4 (v := .ref (ad (tE X) m 8 a5)) (by rw [e_a5]; rfl) dX2_isOpen_13 ?_
    refine gx_get C (ok8 hm ha5) rfl rfl inX4 (ref := "SweetWraps$Tin") 3 (by decide) bw_83 rfl rfl dX2_isOpen_14 ?_
    refine gx_if_ne (tgt := 24) C dX2_isOpen_17 (by decide) (fun c6 => ?_) (fun c6 => ?_)
    · replace hw := hw.1 c6
      refine gx_iconst (v := (0 : Int32)) C dX2_isOpen_24 (by decide) ?_
      exact gx_iret C rfl rfl dX2_isOpen_25 hw
    · replace hw := hw.2 c6
      refine gx_iconst (v := (1 : Int32)) C dX2_isOpen_20 (by decide) ?_
      refine gx_goto (tgt := 25) C dX2_isOpen_21 (by decide) ?_
      exact gx_iret C rfl rfl dX2_isOpen_25 hw
theorem hy_X2_isOpen : yX2_isOpen.cls = "SweetWraps$Machine" ∧ yX2_isOpen.cls ≠ "java/lang/invoke/MethodHandle" ∧ yX2_isOpen.cls ≠ "java/lang/invoke/VarHandle" ∧ (parseMethodDescriptor yX2_isOpen.desc).map (fun d => d.parameters.length) = some 1 := by decide +kernel

theorem dX2_isOpenTinWithBoth_0 : decode cX2_isOpenTinWithBoth 0 = .ok (.iconst 1, 1) := by decide +kernel
theorem dX2_isOpenTinWithBoth_1 : decode cX2_isOpenTinWithBoth 1 = .ok (.iload_n 1, 1) := by decide +kernel
theorem dX2_isOpenTinWithBoth_2 : decode cX2_isOpenTinWithBoth 2 = .ok (.ishl, 1) := by decide +kernel
theorem dX2_isOpenTinWithBoth_3 : decode cX2_isOpenTinWithBoth 3 = .ok (.iconst 1, 1) := by decide +kernel
theorem dX2_isOpenTinWithBoth_4 : decode cX2_isOpenTinWithBoth 4 = .ok (.iload_n 2, 1) := by decide +kernel
theorem dX2_isOpenTinWithBoth_5 : decode cX2_isOpenTinWithBoth 5 = .ok (.ishl, 1) := by decide +kernel
theorem dX2_isOpenTinWithBoth_6 : decode cX2_isOpenTinWithBoth 6 = .ok (.ior, 1) := by decide +kernel
theorem dX2_isOpenTinWithBoth_7 : decode cX2_isOpenTinWithBoth 7 = .ok (.istore_n 3, 1) := by decide +kernel
theorem dX2_isOpenTinWithBoth_8 : decode cX2_isOpenTinWithBoth 8 = .ok (.iconst 0, 1) := by decide +kernel
theorem dX2_isOpenTinWithBoth_9 : decode cX2_isOpenTinWithBoth 9 = .ok (.istore 4, 2) := by decide +kernel
theorem dX2_isOpenTinWithBoth_11 : decode cX2_isOpenTinWithBoth 11 = .ok (.iload 4, 2) := by decide +kernel
theorem dX2_isOpenTinWithBoth_13 : decode cX2_isOpenTinWithBoth 13 = .ok (.bipush 16, 2) := by decide +kernel
theorem dX2_isOpenTinWithBoth_15 : decode cX2_isOpenTinWithBoth 15 = .ok (.if_icmp .ge 36, 3) := by decide +kernel
theorem dX2_isOpenTinWithBoth_18 : decode cX2_isOpenTinWithBoth 18 = .ok (.aload_n 0, 1) := by decide +kernel
theorem dX2_isOpenTinWithBoth_19 : decode cX2_isOpenTinWithBoth 19 = .ok (.iload 4, 2) := by decide +kernel
theorem dX2_isOpenTinWithBoth_21 : decode cX2_isOpenTinWithBoth 21 = .ok (.invokevirtual 171, 3) := by decide +kernel
theorem dX2_isOpenTinWithBoth_24 : decode cX2_isOpenTinWithBoth 24 = .ok (.ifCond .eq 21, 3) := by decide +kernel
theorem dX2_isOpenTinWithBoth_27 : decode cX2_isOpenTinWithBoth 27 = .ok (.aload_n 0, 1) := by decide +kernel
theorem dX2_isOpenTinWithBoth_28 : decode cX2_isOpenTinWithBoth 28 = .ok (.getfield 23, 3) := by decide +kernel
theorem dX2_isOpenTinWithBoth_31 : decode cX2_isOpenTinWithBoth 31 = .ok (.iload 4, 2) := by decide +kernel
theorem dX2_isOpenTinWithBoth_33 : decode cX2_isOpenTinWithBoth 33 = .ok (.aaload, 1) := by decide +kernel
theorem dX2_isOpenTinWithBoth_34 : decode cX2_isOpenTinWithBoth 34 = .ok (.getfield 174, 3) := by decide +kernel
theorem dX2_isOpenTinWithBoth_37 : decode cX2_isOpenTinWithBoth 37 = .ok (.iload_n 3, 1) := by decide +kernel
theorem dX2_isOpenTinWithBoth_38 : decode cX2_isOpenTinWithBoth 38 = .ok (.iand, 1) := by decide +kernel
theorem dX2_isOpenTinWithBoth_39 : decode cX2_isOpenTinWithBoth 39 = .ok (.iload_n 3, 1) := by decide +kernel
theorem dX2_isOpenTinWithBoth_40 : decode cX2_isOpenTinWithBoth 40 = .ok (.if_icmp .ne 5, 3) := by decide +kernel
theorem dX2_isOpenTinWithBoth_43 : decode cX2_isOpenTinWithBoth 43 = .ok (.iconst 1, 1) := by decide +kernel
theorem dX2_isOpenTinWithBoth_44 : decode cX2_isOpenTinWithBoth 44 = .ok (.ireturn, 1) := by decide +kernel
theorem dX2_isOpenTinWithBoth_45 : decode cX2_isOpenTinWithBoth 45 = .ok (.iinc 4 1, 3) := by decide +kernel
theorem dX2_isOpenTinWithBoth_48 : decode cX2_isOpenTinWithBoth 48 = .ok (.goto (-37), 3) := by decide +kernel
theorem dX2_isOpenTinWithBoth_51 : decode cX2_isOpenTinWithBoth 51 = .ok (.iconst 0, 1) := by decide +kernel
theorem dX2_isOpenTinWithBoth_52 : decode cX2_isOpenTinWithBoth 52 = .ok (.ireturn, 1) := by decide +kernel
def wp_X2_isOpenTinWithBoth_b45 (m : Nat) (x1 : Int32) (x2 : Int32) (K11 : Int32 → Int32 → Sg → Prop) (Q : Int32 → Sg → Prop) (v3 : Int32) (v4 : Int32) (σ : Sg) : Prop := ∀ z9 : Int32, z9 = v4 + (1 : Int32) → K11 v3 z9 σ
set_option maxRecDepth 100000 in
set_option maxHeartbeats 4000000 in
theorem g_X2_isOpenTinWithBoth_b45 {X : Tx} {Q : Int32 → Sg → Prop} (C : Cx X cX2_isOpenTinWithBoth "SweetWraps$Machine" (some .boolean) 3 63 5 (QI (tE X) Q)) {m : Nat} {x1 : Int32} {x2 : Int32} (hm : m < 11) {K11 : Int32 → Int32 → Sg → Prop} (hK11 : ∀ (v3 : Int32) (v4 : Int32) (σ : Sg), K11 v3 v4 σ → G X σ [(0, .ref (ad (tE X) m 0 0)), (3, .int v3), (4, .int v4)] [] 11) {v3 : Int32} {v4 : Int32} {σ : Sg} (hw : wp_X2_isOpenTinWithBoth_b45 m x1 x2 K11 Q v3 v4 σ) : G X σ [(0, .ref (ad (tE X) m 0 0)), (3, .int v3), (4, .int v4)] [] 45 := by
  unfold wp_X2_isOpenTinWithBoth_b45 at hw
  obtain ⟨z9, e_z9⟩ : ∃ z : Int32, z = v4 + (1 : Int32) := ⟨_, rfl⟩
  replace hw := hw z9 e_z9
  refine gx_iinc (v := z9) (lv' := [(4, .int z9), (0, .ref (ad (tE X) m 0 0)), (3, .int v3)]) C dX2_isOpenTinWithBoth_45 2 rfl (by rw [e_z9]; rfl) (by decide) rfl ?_
  refine gx_goto (tgt := 11) C dX2_isOpenTinWithBoth_48 (by decide) ?_
  refine gx_sub (lv' := [(0, .ref (ad (tE X) m 0 0)), (3, .int v3), (4, .int z9)]) [1, 2, 0] rfl ?_
  exact hK11 _ _ _ hw
def st_X2_isOpenTinWithBoth_L11 (m : Nat) (x1 : Int32) (x2 : Int32) (Q : Int32 → Sg → Prop) (K11 : Int32 → Int32 → Sg → Prop) (v3 : Int32) (v4 : Int32) (σ : Sg) : Prop := (((16 : Int32) ≤ v4 → Q (0 : Int32) σ) ∧ (¬ (16 : Int32) ≤ v4 → wp_X2_isOpen m v4 σ (fun r3 σ4 => ((r3 = 0 → wp_X2_isOpenTinWithBoth_b45 m x1 x2 K11 Q v3 v4 σ4) ∧ (¬ r3 = 0 → (vp_in v4 16 ∧ ∀ a7 : Nat, a7 = v4.toNatClampNeg → ((¬ ((σ4 m 8 a7 1) &&& v3) = v3 → wp_X2_isOpenTinWithBoth_b45 m x1 x2 K11 Q v3 v4 σ4) ∧ (((σ4 m 8 a7 1) &&& v3) = v3 → Q (1 : Int32) σ4))))))))
def wp_X2_isOpenTinWithBoth_L11 (m : Nat) (x1 : Int32) (x2 : Int32) (Q : Int32 → Sg → Prop) (v3 : Int32) (v4 : Int32) (σ : Sg) : Prop := ∃ n : Nat, lpN (fun (K : Int32 × Int32 × Sg → Prop) (a : Int32 × Int32 × Sg) => st_X2_isOpenTinWithBoth_L11 m x1 x2 Q (fun v3 v4 σ => K (v3, v4, σ)) (a.1) (a.2.1) (a.2.2)) n (v3, v4, σ)
set_option maxRecDepth 100000 in
set_option maxHeartbeats 4000000 in
theorem gs_X2_isOpenTinWithBoth_L11 {X : Tx} {Q : Int32 → Sg → Prop} (C : Cx X cX2_isOpenTinWithBoth "SweetWraps$Machine" (some .boolean) 3 63 5 (QI (tE X) Q)) {m : Nat} {x1 : Int32} {x2 : Int32} (hm : m < 11) {K11 : Int32 → Int32 → Sg → Prop} (hK11 : ∀ (v3 : Int32) (v4 : Int32) (σ : Sg), K11 v3 v4 σ → G X σ [(0, .ref (ad (tE X) m 0 0)), (3, .int v3), (4, .int v4)] [] 11) {v3 : Int32} {v4 : Int32} {σ : Sg} (hw : st_X2_isOpenTinWithBoth_L11 m x1 x2 Q K11 v3 v4 σ) : G X σ [(0, .ref (ad (tE X) m 0 0)), (3, .int v3), (4, .int v4)] [] 11 := by
  unfold st_X2_isOpenTinWithBoth_L11 at hw
  refine gx_iload C dX2_isOpenTinWithBoth_11 2 rfl ?_
  refine gx_bipush (v := (16 : Int32)) C dX2_isOpenTinWithBoth_13 (by decide) ?_
  refine gx_icmp_ge (tgt := 51) C dX2_isOpenTinWithBoth_15 (by decide) (fun c2 => ?_) (fun c2 => ?_)
  · replace hw := hw.1 c2
    refine gx_iconst (v := (0 : Int32)) C dX2_isOpenTinWithBoth_51 (by decide) ?_
    exact gx_iret C rfl rfl dX2_isOpenTinWithBoth_52 hw
  · replace hw := hw.2 c2
    refine gx_aload_n C dX2_isOpenTinWithBoth_18 0 rfl ?_
    refine gx_iload C dX2_isOpenTinWithBoth_19 2 rfl ?_
    refine gx_vcalli (As := [.int v4]) (rest := []) C (c_X2_isOpen _ _ hm hw) (ok0 hm) rfl rfl bw_305 bw_307 bs_3 bw_2 bw_308 hy_X2_isOpen ⟨by decide, by decide⟩ rfl (Nat.le_of_ble_eq_true rfl) dX2_isOpenTinWithBoth_21 (fun r3 σ4 hw => ?_)
    refine gx_if_eq (tgt := 45) C dX2_isOpenTinWithBoth_24 (by decide) (fun c5 => ?_) (fun c5 => ?_)
    · replace hw := hw.1 c5
      exact g_X2_isOpenTinWithBoth_b45 C hm hK11 hw
    · replace hw := hw.2 c5
      refine gx_aload_n C dX2_isOpenTinWithBoth_27 0 rfl ?_
      refine gx_get C (ok0 hm) rfl rfl inX2 (ref := "SweetWraps$Machine") 2 (by decide) bw_97 rfl rfl dX2_isOpenTinWithBoth_28 ?_
      refine gx_iload C dX2_isOpenTinWithBoth_31 2 rfl ?_
      have h6 := hw.1
      replace hw := hw.2
      obtain ⟨a7, e_a7⟩ : ∃ z : Nat, z = v4.toNatClampNeg := ⟨_, rfl⟩
      replace hw := hw a7 e_a7
      have ha7 : a7 < 16 := by rw [e_a7]; exact vp_lt h6
      refine gx_aald C (ok3 hm) rfl (t0 := 4) rfl h6 (v := .ref (ad (tE X) m 8 a7)) (by rw [e_a7]; rfl) dX2_isOpenTinWithBoth_33 ?_
      refine gx_get C (ok8 hm ha7) rfl rfl inX4 (ref := "SweetWraps$Tin") 1 (by decide) bw_79 rfl rfl dX2_isOpenTinWithBoth_34 ?_
      refine gx_iload_n C dX2_isOpenTinWithBoth_37 1 rfl ?_
      refine gx_iand C dX2_isOpenTinWithBoth_38 ?_
      refine gx_iload_n C dX2_isOpenTinWithBoth_39 1 rfl ?_
      refine gx_icmp_ne (tgt := 45) C dX2_isOpenTinWithBoth_40 (by decide) (fun c8 => ?_) (fun c8 => ?_)
      · replace hw := hw.1 c8
        exact g_X2_isOpenTinWithBoth_b45 C hm hK11 hw
      · replace hw := hw.2 c8
        refine gx_iconst (v := (1 : Int32)) C dX2_isOpenTinWithBoth_43 (by decide) ?_
        exact gx_iret C rfl rfl dX2_isOpenTinWithBoth_44 hw
set_option maxRecDepth 100000 in
set_option maxHeartbeats 4000000 in
theorem g_X2_isOpenTinWithBoth_L11 {X : Tx} {Q : Int32 → Sg → Prop} (C : Cx X cX2_isOpenTinWithBoth "SweetWraps$Machine" (some .boolean) 3 63 5 (QI (tE X) Q)) {m : Nat} {x1 : Int32} {x2 : Int32} (hm : m < 11) {v3 : Int32} {v4 : Int32} {σ : Sg} (hw : wp_X2_isOpenTinWithBoth_L11 m x1 x2 Q v3 v4 σ) : G X σ [(0, .ref (ad (tE X) m 0 0)), (3, .int v3), (4, .int v4)] [] 11 := by
  obtain ⟨n, hw⟩ := hw
  exact lpN_G (P := (fun (a : Int32 × Int32 × Sg) => G X (a.2.2) [(0, .ref (ad (tE X) m 0 0)), (3, .int (a.1)), (4, .int (a.2.1))] [] 11)) (fun K a hK h => gs_X2_isOpenTinWithBoth_L11 C hm (fun v3 v4 σ h => hK (v3, v4, σ) h) h) n _ hw
def wp_X2_isOpenTinWithBoth (m : Nat) (x1 : Int32) (x2 : Int32) (σ : Sg) (Q : Int32 → Sg → Prop) : Prop := ∀ z1 : Int32, z1 = (((1 : Int32) <<< (x1 &&& 31)) ||| ((1 : Int32) <<< (x2 &&& 31))) → wp_X2_isOpenTinWithBoth_L11 m x1 x2 Q z1 (0 : Int32) σ
set_option maxRecDepth 100000 in
set_option maxHeartbeats 4000000 in
theorem c_X2_isOpenTinWithBoth (l : Launch) (E : Ev) {m : Nat} {x1 : Int32} {x2 : Int32} (hm : m < 11) {σ : Sg} {Q : Int32 → Sg → Prop} (hw : wp_X2_isOpenTinWithBoth m x1 x2 σ Q) : CT l E yX2_isOpenTinWithBoth cX2_isOpenTinWithBoth 5 (some .boolean) 3 63 [.ref (ad E m 0 0), .int x1, .int x2] σ (QI E Q) := by
  refine CT_of (by decide) (Nat.le_of_ble_eq_true rfl) (fun X h1 h2 C => ?_)
  subst h1; subst h2
  have C : Cx X cX2_isOpenTinWithBoth "SweetWraps$Machine" (some .boolean) 3 63 5 (QI (tE X) Q) := C
  show G X σ [(0, .ref (ad (tE X) m 0 0)), (1, .int x1), (2, .int x2)] [] 0
  unfold wp_X2_isOpenTinWithBoth at hw
  refine gx_iconst (v := (1 : Int32)) C dX2_isOpenTinWithBoth_0 (by decide) ?_
  refine gx_iload_n C dX2_isOpenTinWithBoth_1 1 rfl ?_
  refine gx_ishl C dX2_isOpenTinWithBoth_2 ?_
  refine gx_iconst (v := (1 : Int32)) C dX2_isOpenTinWithBoth_3 (by decide) ?_
  refine gx_iload_n C dX2_isOpenTinWithBoth_4 2 rfl ?_
  refine gx_ishl C dX2_isOpenTinWithBoth_5 ?_
  refine gx_ior C dX2_isOpenTinWithBoth_6 ?_
  obtain ⟨z1, e_z1⟩ : ∃ z : Int32, z = (((1 : Int32) <<< (x1 &&& 31)) ||| ((1 : Int32) <<< (x2 &&& 31))) := ⟨_, rfl⟩
  replace hw := hw z1 e_z1
  refine gx_top e_z1 ?_
  refine gx_istore_n (lv' := [(3, .int z1), (0, .ref (ad (tE X) m 0 0)), (1, .int x1), (2, .int x2)]) C dX2_isOpenTinWithBoth_7 (by decide) rfl ?_
  refine gx_iconst (v := (0 : Int32)) C dX2_isOpenTinWithBoth_8 (by decide) ?_
  refine gx_istore (lv' := [(4, .int (0 : Int32)), (3, .int z1), (0, .ref (ad (tE X) m 0 0)), (1, .int x1), (2, .int x2)]) C dX2_isOpenTinWithBoth_9 (by decide) rfl ?_
  refine gx_sub (lv' := [(0, .ref (ad (tE X) m 0 0)), (3, .int z1), (4, .int (0 : Int32))]) [2, 1, 0] rfl ?_
  exact g_X2_isOpenTinWithBoth_L11 C hm hw
theorem hy_X2_isOpenTinWithBoth : yX2_isOpenTinWithBoth.cls = "SweetWraps$Machine" ∧ yX2_isOpenTinWithBoth.cls ≠ "java/lang/invoke/MethodHandle" ∧ yX2_isOpenTinWithBoth.cls ≠ "java/lang/invoke/VarHandle" ∧ (parseMethodDescriptor yX2_isOpenTinWithBoth.desc).map (fun d => d.parameters.length) = some 2 := by decide +kernel

theorem dX2_switchApart_0 : decode cX2_switchApart 0 = .ok (.iload_n 1, 1) := by decide +kernel
theorem dX2_switchApart_1 : decode cX2_switchApart 1 = .ok (.bipush 6, 2) := by decide +kernel
theorem dX2_switchApart_3 : decode cX2_switchApart 3 = .ok (.invokestatic 56, 3) := by decide +kernel
theorem dX2_switchApart_6 : decode cX2_switchApart 6 = .ok (.ifCond .eq 17, 3) := by decide +kernel
theorem dX2_switchApart_9 : decode cX2_switchApart 9 = .ok (.iload_n 2, 1) := by decide +kernel
theorem dX2_switchApart_10 : decode cX2_switchApart 10 = .ok (.bipush 6, 2) := by decide +kernel
theorem dX2_switchApart_12 : decode cX2_switchApart 12 = .ok (.invokestatic 56, 3) := by decide +kernel
theorem dX2_switchApart_15 : decode cX2_switchApart 15 = .ok (.ifCond .eq 8, 3) := by decide +kernel
theorem dX2_switchApart_18 : decode cX2_switchApart 18 = .ok (.iload_n 1, 1) := by decide +kernel
theorem dX2_switchApart_19 : decode cX2_switchApart 19 = .ok (.iload_n 2, 1) := by decide +kernel
theorem dX2_switchApart_20 : decode cX2_switchApart 20 = .ok (.if_icmp .ne 4, 3) := by decide +kernel
theorem dX2_switchApart_23 : decode cX2_switchApart 23 = .ok (.return_, 1) := by decide +kernel
theorem dX2_switchApart_24 : decode cX2_switchApart 24 = .ok (.aload_n 0, 1) := by decide +kernel
theorem dX2_switchApart_25 : decode cX2_switchApart 25 = .ok (.getfield 27, 3) := by decide +kernel
theorem dX2_switchApart_28 : decode cX2_switchApart 28 = .ok (.iload_n 1, 1) := by decide +kernel
theorem dX2_switchApart_29 : decode cX2_switchApart 29 = .ok (.dup2, 1) := by decide +kernel
theorem dX2_switchApart_30 : decode cX2_switchApart 30 = .ok (.iaload, 1) := by decide +kernel
theorem dX2_switchApart_31 : decode cX2_switchApart 31 = .ok (.iconst 1, 1) := by decide +kernel
theorem dX2_switchApart_32 : decode cX2_switchApart 32 = .ok (.iload_n 2, 1) := by decide +kernel
theorem dX2_switchApart_33 : decode cX2_switchApart 33 = .ok (.ishl, 1) := by decide +kernel
theorem dX2_switchApart_34 : decode cX2_switchApart 34 = .ok (.ixor, 1) := by decide +kernel
theorem dX2_switchApart_35 : decode cX2_switchApart 35 = .ok (.iastore, 1) := by decide +kernel
theorem dX2_switchApart_36 : decode cX2_switchApart 36 = .ok (.aload_n 0, 1) := by decide +kernel
theorem dX2_switchApart_37 : decode cX2_switchApart 37 = .ok (.getfield 27, 3) := by decide +kernel
theorem dX2_switchApart_40 : decode cX2_switchApart 40 = .ok (.iload_n 2, 1) := by decide +kernel
theorem dX2_switchApart_41 : decode cX2_switchApart 41 = .ok (.dup2, 1) := by decide +kernel
theorem dX2_switchApart_42 : decode cX2_switchApart 42 = .ok (.iaload, 1) := by decide +kernel
theorem dX2_switchApart_43 : decode cX2_switchApart 43 = .ok (.iconst 1, 1) := by decide +kernel
theorem dX2_switchApart_44 : decode cX2_switchApart 44 = .ok (.iload_n 1, 1) := by decide +kernel
theorem dX2_switchApart_45 : decode cX2_switchApart 45 = .ok (.ishl, 1) := by decide +kernel
theorem dX2_switchApart_46 : decode cX2_switchApart 46 = .ok (.ixor, 1) := by decide +kernel
theorem dX2_switchApart_47 : decode cX2_switchApart 47 = .ok (.iastore, 1) := by decide +kernel
theorem dX2_switchApart_48 : decode cX2_switchApart 48 = .ok (.return_, 1) := by decide +kernel
def wp_X2_switchApart (m : Nat) (x1 : Int32) (x2 : Int32) (σ : Sg) (Q : Sg → Prop) : Prop := wp_X5_isIndex x1 (6 : Int32) σ (fun r1 σ2 => ((r1 = 0 → Q σ2) ∧ (¬ r1 = 0 → wp_X5_isIndex x2 (6 : Int32) σ2 (fun r4 σ5 => ((r4 = 0 → Q σ5) ∧ (¬ r4 = 0 → ((¬ x1 = x2 → (vp_in x1 6 ∧ (vp_in x1 6 ∧ ∀ σ8 : Sg, σ8 = up σ5 m 4 0 x1.toNatClampNeg ((σ5 m 4 0 x1.toNatClampNeg) ^^^ ((1 : Int32) <<< (x2 &&& 31))) → (vp_in x2 6 ∧ (vp_in x2 6 ∧ ∀ σ9 : Sg, σ9 = up σ8 m 4 0 x2.toNatClampNeg ((σ8 m 4 0 x2.toNatClampNeg) ^^^ ((1 : Int32) <<< (x1 &&& 31))) → Q σ9))))) ∧ (x1 = x2 → Q σ5))))))))
set_option maxRecDepth 100000 in
set_option maxHeartbeats 4000000 in
theorem c_X2_switchApart (l : Launch) (E : Ev) {m : Nat} {x1 : Int32} {x2 : Int32} (hm : m < 11) {σ : Sg} {Q : Sg → Prop} (hw : wp_X2_switchApart m x1 x2 σ Q) : CT l E yX2_switchApart cX2_switchApart 3 none 1 21 [.ref (ad E m 0 0), .int x1, .int x2] σ (QV E Q) := by
  refine CT_of (by decide) (Nat.le_of_ble_eq_true rfl) (fun X h1 h2 C => ?_)
  subst h1; subst h2
  have C : Cx X cX2_switchApart "SweetWraps$Machine" none 1 21 3 (QV (tE X) Q) := C
  show G X σ [(0, .ref (ad (tE X) m 0 0)), (1, .int x1), (2, .int x2)] [] 0
  unfold wp_X2_switchApart at hw
  refine gx_iload_n C dX2_switchApart_0 1 rfl ?_
  refine gx_bipush (v := (6 : Int32)) C dX2_switchApart_1 (by decide) ?_
  refine gx_ncalli (As := [.int x1, .int (6 : Int32)]) (rest := []) (host := "SweetWraps") C (c_X5_isIndex _ _ hw) (nest_in _ (by decide +kernel)) bw_226 bw_1 bw_227 hyS_X5_isIndex ⟨by decide, by decide⟩ rfl (Nat.le_of_ble_eq_true rfl) dX2_switchApart_3 (fun r1 σ2 hw => ?_)
  refine gx_if_eq (tgt := 23) C dX2_switchApart_6 (by decide) (fun c3 => ?_) (fun c3 => ?_)
  · replace hw := hw.1 c3
    exact gx_vret C dX2_switchApart_23 hw
  · replace hw := hw.2 c3
    refine gx_iload_n C dX2_switchApart_9 2 rfl ?_
    refine gx_bipush (v := (6 : Int32)) C dX2_switchApart_10 (by decide) ?_
    refine gx_ncalli (As := [.int x2, .int (6 : Int32)]) (rest := []) (host := "SweetWraps") C (c_X5_isIndex _ _ hw) (nest_in _ (by decide +kernel)) bw_226 bw_1 bw_227 hyS_X5_isIndex ⟨by decide, by decide⟩ rfl (Nat.le_of_ble_eq_true rfl) dX2_switchApart_12 (fun r4 σ5 hw => ?_)
    refine gx_if_eq (tgt := 23) C dX2_switchApart_15 (by decide) (fun c6 => ?_) (fun c6 => ?_)
    · replace hw := hw.1 c6
      exact gx_vret C dX2_switchApart_23 hw
    · replace hw := hw.2 c6
      refine gx_iload_n C dX2_switchApart_18 1 rfl ?_
      refine gx_iload_n C dX2_switchApart_19 2 rfl ?_
      refine gx_icmp_ne (tgt := 24) C dX2_switchApart_20 (by decide) (fun c7 => ?_) (fun c7 => ?_)
      · replace hw := hw.1 c7
        refine gx_aload_n C dX2_switchApart_24 0 rfl ?_
        refine gx_get C (ok0 hm) rfl rfl inX2 (ref := "SweetWraps$Machine") 3 (by decide) bw_98 rfl rfl dX2_switchApart_25 ?_
        refine gx_iload_n C dX2_switchApart_28 1 rfl ?_
        refine gx_dup2 C dX2_switchApart_29 rfl rfl ?_
        refine gx_iald C (ok4 hm) rfl hw.1 _ rfl dX2_switchApart_30 ?_
        replace hw := hw.2
        refine gx_iconst (v := (1 : Int32)) C dX2_switchApart_31 (by decide) ?_
        refine gx_iload_n C dX2_switchApart_32 2 rfl ?_
        refine gx_ishl C dX2_switchApart_33 ?_
        refine gx_ixor C dX2_switchApart_34 ?_
        refine gx_iast C (ok4 hm) (fun _ => rfl) hw.1 _ rfl rfl dX2_switchApart_35 ?_
        replace hw := hw.2
        obtain ⟨σ8, e_σ8⟩ : ∃ z : Sg, z = up σ5 m 4 0 x1.toNatClampNeg ((σ5 m 4 0 x1.toNatClampNeg) ^^^ ((1 : Int32) <<< (x2 &&& 31))) := ⟨_, rfl⟩
        replace hw := hw σ8 e_σ8
        refine gx_st e_σ8 ?_
        refine gx_aload_n C dX2_switchApart_36 0 rfl ?_
        refine gx_get C (ok0 hm) rfl rfl inX2 (ref := "SweetWraps$Machine") 3 (by decide) bw_98 rfl rfl dX2_switchApart_37 ?_
        refine gx_iload_n C dX2_switchApart_40 2 rfl ?_
        refine gx_dup2 C dX2_switchApart_41 rfl rfl ?_
        refine gx_iald C (ok4 hm) rfl hw.1 _ rfl dX2_switchApart_42 ?_
        replace hw := hw.2
        refine gx_iconst (v := (1 : Int32)) C dX2_switchApart_43 (by decide) ?_
        refine gx_iload_n C dX2_switchApart_44 1 rfl ?_
        refine gx_ishl C dX2_switchApart_45 ?_
        refine gx_ixor C dX2_switchApart_46 ?_
        refine gx_iast C (ok4 hm) (fun _ => rfl) hw.1 _ rfl rfl dX2_switchApart_47 ?_
        replace hw := hw.2
        obtain ⟨σ9, e_σ9⟩ : ∃ z : Sg, z = up σ8 m 4 0 x2.toNatClampNeg ((σ8 m 4 0 x2.toNatClampNeg) ^^^ ((1 : Int32) <<< (x1 &&& 31))) := ⟨_, rfl⟩
        replace hw := hw σ9 e_σ9
        refine gx_st e_σ9 ?_
        exact gx_vret C dX2_switchApart_48 hw
      · replace hw := hw.2 c7
        exact gx_vret C dX2_switchApart_23 hw
theorem hy_X2_switchApart : yX2_switchApart.cls = "SweetWraps$Machine" ∧ yX2_switchApart.cls ≠ "java/lang/invoke/MethodHandle" ∧ yX2_switchApart.cls ≠ "java/lang/invoke/VarHandle" ∧ (parseMethodDescriptor yX2_switchApart.desc).map (fun d => d.parameters.length) = some 2 := by decide +kernel

theorem dX2_changeApart_0 : decode cX2_changeApart 0 = .ok (.iload_n 1, 1) := by decide +kernel
theorem dX2_changeApart_1 : decode cX2_changeApart 1 = .ok (.bipush 6, 2) := by decide +kernel
theorem dX2_changeApart_3 : decode cX2_changeApart 3 = .ok (.invokestatic 56, 3) := by decide +kernel
theorem dX2_changeApart_6 : decode cX2_changeApart 6 = .ok (.ifCond .eq 12, 3) := by decide +kernel
theorem dX2_changeApart_9 : decode cX2_changeApart 9 = .ok (.iload_n 2, 1) := by decide +kernel
theorem dX2_changeApart_10 : decode cX2_changeApart 10 = .ok (.bipush 6, 2) := by decide +kernel
theorem dX2_changeApart_12 : decode cX2_changeApart 12 = .ok (.invokestatic 56, 3) := by decide +kernel
theorem dX2_changeApart_15 : decode cX2_changeApart 15 = .ok (.ifCond .ne 5, 3) := by decide +kernel
theorem dX2_changeApart_18 : decode cX2_changeApart 18 = .ok (.iconst (-1), 1) := by decide +kernel
theorem dX2_changeApart_19 : decode cX2_changeApart 19 = .ok (.ireturn, 1) := by decide +kernel
theorem dX2_changeApart_20 : decode cX2_changeApart 20 = .ok (.iload_n 1, 1) := by decide +kernel
theorem dX2_changeApart_21 : decode cX2_changeApart 21 = .ok (.iload_n 2, 1) := by decide +kernel
theorem dX2_changeApart_22 : decode cX2_changeApart 22 = .ok (.if_icmp .ne 6, 3) := by decide +kernel
theorem dX2_changeApart_25 : decode cX2_changeApart 25 = .ok (.bipush (-2), 2) := by decide +kernel
theorem dX2_changeApart_27 : decode cX2_changeApart 27 = .ok (.ireturn, 1) := by decide +kernel
theorem dX2_changeApart_28 : decode cX2_changeApart 28 = .ok (.aload_n 0, 1) := by decide +kernel
theorem dX2_changeApart_29 : decode cX2_changeApart 29 = .ok (.getfield 27, 3) := by decide +kernel
theorem dX2_changeApart_32 : decode cX2_changeApart 32 = .ok (.iload_n 1, 1) := by decide +kernel
theorem dX2_changeApart_33 : decode cX2_changeApart 33 = .ok (.iaload, 1) := by decide +kernel
theorem dX2_changeApart_34 : decode cX2_changeApart 34 = .ok (.iconst 1, 1) := by decide +kernel
theorem dX2_changeApart_35 : decode cX2_changeApart 35 = .ok (.iload_n 2, 1) := by decide +kernel
theorem dX2_changeApart_36 : decode cX2_changeApart 36 = .ok (.ishl, 1) := by decide +kernel
theorem dX2_changeApart_37 : decode cX2_changeApart 37 = .ok (.iand, 1) := by decide +kernel
theorem dX2_changeApart_38 : decode cX2_changeApart 38 = .ok (.ifCond .eq 7, 3) := by decide +kernel
theorem dX2_changeApart_41 : decode cX2_changeApart 41 = .ok (.iconst 1, 1) := by decide +kernel
theorem dX2_changeApart_42 : decode cX2_changeApart 42 = .ok (.goto 4, 3) := by decide +kernel
theorem dX2_changeApart_45 : decode cX2_changeApart 45 = .ok (.iconst 0, 1) := by decide +kernel
theorem dX2_changeApart_46 : decode cX2_changeApart 46 = .ok (.istore_n 3, 1) := by decide +kernel
theorem dX2_changeApart_47 : decode cX2_changeApart 47 = .ok (.iload_n 3, 1) := by decide +kernel
theorem dX2_changeApart_48 : decode cX2_changeApart 48 = .ok (.ifCond .ne 15, 3) := by decide +kernel
theorem dX2_changeApart_51 : decode cX2_changeApart 51 = .ok (.aload_n 0, 1) := by decide +kernel
theorem dX2_changeApart_52 : decode cX2_changeApart 52 = .ok (.iload_n 1, 1) := by decide +kernel
theorem dX2_changeApart_53 : decode cX2_changeApart 53 = .ok (.iload_n 2, 1) := by decide +kernel
theorem dX2_changeApart_54 : decode cX2_changeApart 54 = .ok (.invokevirtual 88, 3) := by decide +kernel
theorem dX2_changeApart_57 : decode cX2_changeApart 57 = .ok (.ifCond .eq 6, 3) := by decide +kernel
theorem dX2_changeApart_60 : decode cX2_changeApart 60 = .ok (.bipush (-5), 2) := by decide +kernel
theorem dX2_changeApart_62 : decode cX2_changeApart 62 = .ok (.ireturn, 1) := by decide +kernel
theorem dX2_changeApart_63 : decode cX2_changeApart 63 = .ok (.aload_n 0, 1) := by decide +kernel
theorem dX2_changeApart_64 : decode cX2_changeApart 64 = .ok (.iload_n 1, 1) := by decide +kernel
theorem dX2_changeApart_65 : decode cX2_changeApart 65 = .ok (.iload_n 2, 1) := by decide +kernel
theorem dX2_changeApart_66 : decode cX2_changeApart 66 = .ok (.invokevirtual 91, 3) := by decide +kernel
theorem dX2_changeApart_69 : decode cX2_changeApart 69 = .ok (.iload_n 3, 1) := by decide +kernel
theorem dX2_changeApart_70 : decode cX2_changeApart 70 = .ok (.ifCond .eq 7, 3) := by decide +kernel
theorem dX2_changeApart_73 : decode cX2_changeApart 73 = .ok (.iconst 0, 1) := by decide +kernel
theorem dX2_changeApart_74 : decode cX2_changeApart 74 = .ok (.goto 4, 3) := by decide +kernel
theorem dX2_changeApart_77 : decode cX2_changeApart 77 = .ok (.iconst 1, 1) := by decide +kernel
theorem dX2_changeApart_78 : decode cX2_changeApart 78 = .ok (.ireturn, 1) := by decide +kernel
def wp_X2_changeApart_b63 (m : Nat) (x1 : Int32) (x2 : Int32) (Q : Int32 → Sg → Prop) (v3 : Int32) (σ : Sg) : Prop := wp_X2_switchApart m x1 x2 σ (fun σ13 => ((v3 = 0 → Q (1 : Int32) σ13) ∧ (¬ v3 = 0 → Q (0 : Int32) σ13)))
set_option maxRecDepth 100000 in
set_option maxHeartbeats 4000000 in
theorem g_X2_changeApart_b63 {X : Tx} {Q : Int32 → Sg → Prop} (C : Cx X cX2_changeApart "SweetWraps$Machine" (some .int) 4 87 4 (QI (tE X) Q)) {m : Nat} {x1 : Int32} {x2 : Int32} (hm : m < 11) {v3 : Int32} {σ : Sg} (hw : wp_X2_changeApart_b63 m x1 x2 Q v3 σ) : G X σ [(0, .ref (ad (tE X) m 0 0)), (1, .int x1), (2, .int x2), (3, .int v3)] [] 63 := by
  unfold wp_X2_changeApart_b63 at hw
  refine gx_aload_n C dX2_changeApart_63 0 rfl ?_
  refine gx_iload_n C dX2_changeApart_64 1 rfl ?_
  refine gx_iload_n C dX2_changeApart_65 2 rfl ?_
  refine gx_vcallv (As := [.int x1, .int x2]) (rest := []) C (c_X2_switchApart _ _ hm hw) (ok0 hm) rfl rfl bw_309 bw_310 bw_311 bw_2 bw_312 hy_X2_switchApart ⟨by decide, by decide⟩ rfl (Nat.le_of_ble_eq_true rfl) dX2_changeApart_66 (fun σ13 hw => ?_)
  refine gx_iload_n C dX2_changeApart_69 3 rfl ?_
  refine gx_if_eq (tgt := 77) C dX2_changeApart_70 (by decide) (fun c14 => ?_) (fun c14 => ?_)
  · replace hw := hw.1 c14
    refine gx_iconst (v := (1 : Int32)) C dX2_changeApart_77 (by decide) ?_
    exact gx_iret C rfl rfl dX2_changeApart_78 hw
  · replace hw := hw.2 c14
    refine gx_iconst (v := (0 : Int32)) C dX2_changeApart_73 (by decide) ?_
    refine gx_goto (tgt := 78) C dX2_changeApart_74 (by decide) ?_
    exact gx_iret C rfl rfl dX2_changeApart_78 hw
def wp_X2_changeApart_b46 (m : Nat) (x1 : Int32) (x2 : Int32) (Q : Int32 → Sg → Prop) (s0 : Int32) (σ : Sg) : Prop := ((¬ s0 = 0 → wp_X2_changeApart_b63 m x1 x2 Q s0 σ) ∧ (s0 = 0 → wp_X2_isOpenTinWithBoth m x1 x2 σ (fun r10 σ11 => ((r10 = 0 → wp_X2_changeApart_b63 m x1 x2 Q s0 σ11) ∧ (¬ r10 = 0 → Q (-5 : Int32) σ11)))))
set_option maxRecDepth 100000 in
set_option maxHeartbeats 4000000 in
theorem g_X2_changeApart_b46 {X : Tx} {Q : Int32 → Sg → Prop} (C : Cx X cX2_changeApart "SweetWraps$Machine" (some .int) 4 87 4 (QI (tE X) Q)) {m : Nat} {x1 : Int32} {x2 : Int32} (hm : m < 11) {s0 : Int32} {σ : Sg} (hw : wp_X2_changeApart_b46 m x1 x2 Q s0 σ) : G X σ [(0, .ref (ad (tE X) m 0 0)), (1, .int x1), (2, .int x2)] [.int s0] 46 := by
  unfold wp_X2_changeApart_b46 at hw
  refine gx_istore_n (lv' := [(3, .int s0), (0, .ref (ad (tE X) m 0 0)), (1, .int x1), (2, .int x2)]) C dX2_changeApart_46 (by decide) rfl ?_
  refine gx_iload_n C dX2_changeApart_47 0 rfl ?_
  refine gx_if_ne (tgt := 63) C dX2_changeApart_48 (by decide) (fun c9 => ?_) (fun c9 => ?_)
  · replace hw := hw.1 c9
    refine gx_sub (lv' := [(0, .ref (ad (tE X) m 0 0)), (1, .int x1), (2, .int x2), (3, .int s0)]) [1, 2, 3, 0] rfl ?_
    exact g_X2_changeApart_b63 C hm hw
  · replace hw := hw.2 c9
    refine gx_aload_n C dX2_changeApart_51 1 rfl ?_
    refine gx_iload_n C dX2_changeApart_52 2 rfl ?_
    refine gx_iload_n C dX2_changeApart_53 3 rfl ?_
    refine gx_vcalli (As := [.int x1, .int x2]) (rest := []) C (c_X2_isOpenTinWithBoth _ _ hm hw) (ok0 hm) rfl rfl bw_301 bw_303 bs_2 bw_2 bw_304 hy_X2_isOpenTinWithBoth ⟨by decide, by decide⟩ rfl (Nat.le_of_ble_eq_true rfl) dX2_changeApart_54 (fun r10 σ11 hw => ?_)
    refine gx_if_eq (tgt := 63) C dX2_changeApart_57 (by decide) (fun c12 => ?_) (fun c12 => ?_)
    · replace hw := hw.1 c12
      refine gx_sub (lv' := [(0, .ref (ad (tE X) m 0 0)), (1, .int x1), (2, .int x2), (3, .int s0)]) [1, 2, 3, 0] rfl ?_
      exact g_X2_changeApart_b63 C hm hw
    · replace hw := hw.2 c12
      refine gx_bipush (v := (-5 : Int32)) C dX2_changeApart_60 (by decide) ?_
      exact gx_iret C rfl rfl dX2_changeApart_62 hw
def wp_X2_changeApart (m : Nat) (x1 : Int32) (x2 : Int32) (σ : Sg) (Q : Int32 → Sg → Prop) : Prop := wp_X5_isIndex x1 (6 : Int32) σ (fun r1 σ2 => ((r1 = 0 → Q (-1 : Int32) σ2) ∧ (¬ r1 = 0 → wp_X5_isIndex x2 (6 : Int32) σ2 (fun r4 σ5 => ((¬ r4 = 0 → ((¬ x1 = x2 → (vp_in x1 6 ∧ ((((σ5 m 4 0 x1.toNatClampNeg) &&& ((1 : Int32) <<< (x2 &&& 31))) = 0 → wp_X2_changeApart_b46 m x1 x2 Q (0 : Int32) σ5) ∧ (¬ ((σ5 m 4 0 x1.toNatClampNeg) &&& ((1 : Int32) <<< (x2 &&& 31))) = 0 → wp_X2_changeApart_b46 m x1 x2 Q (1 : Int32) σ5)))) ∧ (x1 = x2 → Q (-2 : Int32) σ5))) ∧ (r4 = 0 → Q (-1 : Int32) σ5))))))
set_option maxRecDepth 100000 in
set_option maxHeartbeats 4000000 in
theorem c_X2_changeApart (l : Launch) (E : Ev) {m : Nat} {x1 : Int32} {x2 : Int32} (hm : m < 11) {σ : Sg} {Q : Int32 → Sg → Prop} (hw : wp_X2_changeApart m x1 x2 σ Q) : CT l E yX2_changeApart cX2_changeApart 4 (some .int) 4 87 [.ref (ad E m 0 0), .int x1, .int x2] σ (QI E Q) := by
  refine CT_of (by decide) (Nat.le_of_ble_eq_true rfl) (fun X h1 h2 C => ?_)
  subst h1; subst h2
  have C : Cx X cX2_changeApart "SweetWraps$Machine" (some .int) 4 87 4 (QI (tE X) Q) := C
  show G X σ [(0, .ref (ad (tE X) m 0 0)), (1, .int x1), (2, .int x2)] [] 0
  unfold wp_X2_changeApart at hw
  refine gx_iload_n C dX2_changeApart_0 1 rfl ?_
  refine gx_bipush (v := (6 : Int32)) C dX2_changeApart_1 (by decide) ?_
  refine gx_ncalli (As := [.int x1, .int (6 : Int32)]) (rest := []) (host := "SweetWraps") C (c_X5_isIndex _ _ hw) (nest_in _ (by decide +kernel)) bw_226 bw_1 bw_227 hyS_X5_isIndex ⟨by decide, by decide⟩ rfl (Nat.le_of_ble_eq_true rfl) dX2_changeApart_3 (fun r1 σ2 hw => ?_)
  refine gx_if_eq (tgt := 18) C dX2_changeApart_6 (by decide) (fun c3 => ?_) (fun c3 => ?_)
  · replace hw := hw.1 c3
    refine gx_iconst (v := (-1 : Int32)) C dX2_changeApart_18 (by decide) ?_
    exact gx_iret C rfl rfl dX2_changeApart_19 hw
  · replace hw := hw.2 c3
    refine gx_iload_n C dX2_changeApart_9 2 rfl ?_
    refine gx_bipush (v := (6 : Int32)) C dX2_changeApart_10 (by decide) ?_
    refine gx_ncalli (As := [.int x2, .int (6 : Int32)]) (rest := []) (host := "SweetWraps") C (c_X5_isIndex _ _ hw) (nest_in _ (by decide +kernel)) bw_226 bw_1 bw_227 hyS_X5_isIndex ⟨by decide, by decide⟩ rfl (Nat.le_of_ble_eq_true rfl) dX2_changeApart_12 (fun r4 σ5 hw => ?_)
    refine gx_if_ne (tgt := 20) C dX2_changeApart_15 (by decide) (fun c6 => ?_) (fun c6 => ?_)
    · replace hw := hw.1 c6
      refine gx_iload_n C dX2_changeApart_20 1 rfl ?_
      refine gx_iload_n C dX2_changeApart_21 2 rfl ?_
      refine gx_icmp_ne (tgt := 28) C dX2_changeApart_22 (by decide) (fun c7 => ?_) (fun c7 => ?_)
      · replace hw := hw.1 c7
        refine gx_aload_n C dX2_changeApart_28 0 rfl ?_
        refine gx_get C (ok0 hm) rfl rfl inX2 (ref := "SweetWraps$Machine") 3 (by decide) bw_98 rfl rfl dX2_changeApart_29 ?_
        refine gx_iload_n C dX2_changeApart_32 1 rfl ?_
        refine gx_iald C (ok4 hm) rfl hw.1 _ rfl dX2_changeApart_33 ?_
        replace hw := hw.2
        refine gx_iconst (v := (1 : Int32)) C dX2_changeApart_34 (by decide) ?_
        refine gx_iload_n C dX2_changeApart_35 2 rfl ?_
        refine gx_ishl C dX2_changeApart_36 ?_
        refine gx_iand C dX2_changeApart_37 ?_
        refine gx_if_eq (tgt := 45) C dX2_changeApart_38 (by decide) (fun c8 => ?_) (fun c8 => ?_)
        · replace hw := hw.1 c8
          refine gx_iconst (v := (0 : Int32)) C dX2_changeApart_45 (by decide) ?_
          exact g_X2_changeApart_b46 C hm hw
        · replace hw := hw.2 c8
          refine gx_iconst (v := (1 : Int32)) C dX2_changeApart_41 (by decide) ?_
          refine gx_goto (tgt := 46) C dX2_changeApart_42 (by decide) ?_
          exact g_X2_changeApart_b46 C hm hw
      · replace hw := hw.2 c7
        refine gx_bipush (v := (-2 : Int32)) C dX2_changeApart_25 (by decide) ?_
        exact gx_iret C rfl rfl dX2_changeApart_27 hw
    · replace hw := hw.2 c6
      refine gx_iconst (v := (-1 : Int32)) C dX2_changeApart_18 (by decide) ?_
      exact gx_iret C rfl rfl dX2_changeApart_19 hw
theorem hy_X2_changeApart : yX2_changeApart.cls = "SweetWraps$Machine" ∧ yX2_changeApart.cls ≠ "java/lang/invoke/MethodHandle" ∧ yX2_changeApart.cls ≠ "java/lang/invoke/VarHandle" ∧ (parseMethodDescriptor yX2_changeApart.desc).map (fun d => d.parameters.length) = some 2 := by decide +kernel

theorem dX2_foilOfPull_0 : decode cX2_foilOfPull 0 = .ok (.iconst 2, 1) := by decide +kernel
theorem dX2_foilOfPull_1 : decode cX2_foilOfPull 1 = .ok (.aload_n 0, 1) := by decide +kernel
theorem dX2_foilOfPull_2 : decode cX2_foilOfPull 2 = .ok (.getfield 9, 3) := by decide +kernel
theorem dX2_foilOfPull_5 : decode cX2_foilOfPull 5 = .ok (.iconst 3, 1) := by decide +kernel
theorem dX2_foilOfPull_6 : decode cX2_foilOfPull 6 = .ok (.iaload, 1) := by decide +kernel
theorem dX2_foilOfPull_7 : decode cX2_foilOfPull 7 = .ok (.iadd, 1) := by decide +kernel
theorem dX2_foilOfPull_8 : decode cX2_foilOfPull 8 = .ok (.ireturn, 1) := by decide +kernel
def wp_X2_foilOfPull (m : Nat) (σ : Sg) (Q : Int32 → Sg → Prop) : Prop := Q ((2 : Int32) + (σ m 1 0 3)) σ
set_option maxRecDepth 100000 in
set_option maxHeartbeats 4000000 in
theorem c_X2_foilOfPull (l : Launch) (E : Ev) {m : Nat} (hm : m < 11) {σ : Sg} {Q : Int32 → Sg → Prop} (hw : wp_X2_foilOfPull m σ Q) : CT l E yX2_foilOfPull cX2_foilOfPull 1 (some .int) 0 0 [.ref (ad E m 0 0)] σ (QI E Q) := by
  refine CT_of (by decide) (Nat.le_of_ble_eq_true rfl) (fun X h1 h2 C => ?_)
  subst h1; subst h2
  have C : Cx X cX2_foilOfPull "SweetWraps$Machine" (some .int) 0 0 1 (QI (tE X) Q) := C
  show G X σ [(0, .ref (ad (tE X) m 0 0))] [] 0
  unfold wp_X2_foilOfPull at hw
  refine gx_iconst (v := (2 : Int32)) C dX2_foilOfPull_0 (by decide) ?_
  refine gx_aload_n C dX2_foilOfPull_1 0 rfl ?_
  refine gx_get C (ok0 hm) rfl rfl inX2 (ref := "SweetWraps$Machine") 0 (by decide) bw_93 rfl rfl dX2_foilOfPull_2 ?_
  refine gx_iconst (v := (3 : Int32)) C dX2_foilOfPull_5 (by decide) ?_
  refine gx_iald C (ok1 hm) rfl (n := 4) (x := (3 : Int32)) (by unfold vp_in; decide) 3 (by decide) dX2_foilOfPull_6 ?_
  refine gx_iadd C dX2_foilOfPull_7 ?_
  exact gx_iret C rfl rfl dX2_foilOfPull_8 hw
theorem hy_X2_foilOfPull : yX2_foilOfPull.cls = "SweetWraps$Machine" ∧ yX2_foilOfPull.cls ≠ "java/lang/invoke/MethodHandle" ∧ yX2_foilOfPull.cls ≠ "java/lang/invoke/VarHandle" ∧ (parseMethodDescriptor yX2_foilOfPull.desc).map (fun d => d.parameters.length) = some 0 := by decide +kernel

theorem dX2_pullsUntilTear_0 : decode cX2_pullsUntilTear 0 = .ok (.aload_n 0, 1) := by decide +kernel
theorem dX2_pullsUntilTear_1 : decode cX2_pullsUntilTear 1 = .ok (.getfield 9, 3) := by decide +kernel
theorem dX2_pullsUntilTear_4 : decode cX2_pullsUntilTear 4 = .ok (.iconst 0, 1) := by decide +kernel
theorem dX2_pullsUntilTear_5 : decode cX2_pullsUntilTear 5 = .ok (.iaload, 1) := by decide +kernel
theorem dX2_pullsUntilTear_6 : decode cX2_pullsUntilTear 6 = .ok (.istore_n 1, 1) := by decide +kernel
theorem dX2_pullsUntilTear_7 : decode cX2_pullsUntilTear 7 = .ok (.iload_n 1, 1) := by decide +kernel
theorem dX2_pullsUntilTear_8 : decode cX2_pullsUntilTear 8 = .ok (.iconst 1, 1) := by decide +kernel
theorem dX2_pullsUntilTear_9 : decode cX2_pullsUntilTear 9 = .ok (.if_icmp .ge 7, 3) := by decide +kernel
theorem dX2_pullsUntilTear_12 : decode cX2_pullsUntilTear 12 = .ok (.iconst 2, 1) := by decide +kernel
theorem dX2_pullsUntilTear_13 : decode cX2_pullsUntilTear 13 = .ok (.goto 15, 3) := by decide +kernel
theorem dX2_pullsUntilTear_16 : decode cX2_pullsUntilTear 16 = .ok (.iconst 2, 1) := by decide +kernel
theorem dX2_pullsUntilTear_17 : decode cX2_pullsUntilTear 17 = .ok (.aload_n 0, 1) := by decide +kernel
theorem dX2_pullsUntilTear_18 : decode cX2_pullsUntilTear 18 = .ok (.getfield 9, 3) := by decide +kernel
theorem dX2_pullsUntilTear_21 : decode cX2_pullsUntilTear 21 = .ok (.iconst 1, 1) := by decide +kernel
theorem dX2_pullsUntilTear_22 : decode cX2_pullsUntilTear 22 = .ok (.iaload, 1) := by decide +kernel
theorem dX2_pullsUntilTear_23 : decode cX2_pullsUntilTear 23 = .ok (.iload_n 1, 1) := by decide +kernel
theorem dX2_pullsUntilTear_24 : decode cX2_pullsUntilTear 24 = .ok (.idiv, 1) := by decide +kernel
theorem dX2_pullsUntilTear_25 : decode cX2_pullsUntilTear 25 = .ok (.invokestatic 133, 3) := by decide +kernel
theorem dX2_pullsUntilTear_28 : decode cX2_pullsUntilTear 28 = .ok (.ireturn, 1) := by decide +kernel
def wp_X2_pullsUntilTear (m : Nat) (σ : Sg) (Q : Int32 → Sg → Prop) : Prop := ∀ z1 : Int32, z1 = (σ m 1 0 0) → (((1 : Int32) ≤ z1 → (¬ z1 = 0 ∧ ∀ z3 : Int32, z3 = (if (2 : Int32) < ((σ m 1 0 1) / z1) then ((σ m 1 0 1) / z1) else (2 : Int32)) → Q z3 σ)) ∧ (¬ (1 : Int32) ≤ z1 → Q (2 : Int32) σ))
set_option maxRecDepth 100000 in
set_option maxHeartbeats 4000000 in
theorem c_X2_pullsUntilTear (l : Launch) (E : Ev) {m : Nat} (hm : m < 11) {σ : Sg} {Q : Int32 → Sg → Prop} (hw : wp_X2_pullsUntilTear m σ Q) : CT l E yX2_pullsUntilTear cX2_pullsUntilTear 2 (some .int) 1 40 [.ref (ad E m 0 0)] σ (QI E Q) := by
  refine CT_of (by decide) (Nat.le_of_ble_eq_true rfl) (fun X h1 h2 C => ?_)
  subst h1; subst h2
  have C : Cx X cX2_pullsUntilTear "SweetWraps$Machine" (some .int) 1 40 2 (QI (tE X) Q) := C
  show G X σ [(0, .ref (ad (tE X) m 0 0))] [] 0
  unfold wp_X2_pullsUntilTear at hw
  refine gx_aload_n C dX2_pullsUntilTear_0 0 rfl ?_
  refine gx_get C (ok0 hm) rfl rfl inX2 (ref := "SweetWraps$Machine") 0 (by decide) bw_93 rfl rfl dX2_pullsUntilTear_1 ?_
  refine gx_iconst (v := (0 : Int32)) C dX2_pullsUntilTear_4 (by decide) ?_
  refine gx_iald C (ok1 hm) rfl (n := 4) (x := (0 : Int32)) (by unfold vp_in; decide) 0 (by decide) dX2_pullsUntilTear_5 ?_
  obtain ⟨z1, e_z1⟩ : ∃ z : Int32, z = (σ m 1 0 0) := ⟨_, rfl⟩
  replace hw := hw z1 e_z1
  refine gx_top e_z1 ?_
  refine gx_istore_n (lv' := [(1, .int z1), (0, .ref (ad (tE X) m 0 0))]) C dX2_pullsUntilTear_6 (by decide) rfl ?_
  refine gx_iload_n C dX2_pullsUntilTear_7 0 rfl ?_
  refine gx_iconst (v := (1 : Int32)) C dX2_pullsUntilTear_8 (by decide) ?_
  refine gx_icmp_ge (tgt := 16) C dX2_pullsUntilTear_9 (by decide) (fun c2 => ?_) (fun c2 => ?_)
  · replace hw := hw.1 c2
    refine gx_iconst (v := (2 : Int32)) C dX2_pullsUntilTear_16 (by decide) ?_
    refine gx_aload_n C dX2_pullsUntilTear_17 1 rfl ?_
    refine gx_get C (ok0 hm) rfl rfl inX2 (ref := "SweetWraps$Machine") 0 (by decide) bw_93 rfl rfl dX2_pullsUntilTear_18 ?_
    refine gx_iconst (v := (1 : Int32)) C dX2_pullsUntilTear_21 (by decide) ?_
    refine gx_iald C (ok1 hm) rfl (n := 4) (x := (1 : Int32)) (by unfold vp_in; decide) 1 (by decide) dX2_pullsUntilTear_22 ?_
    refine gx_iload_n C dX2_pullsUntilTear_23 0 rfl ?_
    refine gx_idiv C dX2_pullsUntilTear_24 hw.1 ?_
    replace hw := hw.2
    refine gx_mmax C dX2_pullsUntilTear_25 bw_337 bw_338 bw_8 bw_339 ⟨by decide, Nat.le_of_ble_eq_true rfl⟩ ?_
    obtain ⟨z3, e_z3⟩ : ∃ z : Int32, z = (if (2 : Int32) < ((σ m 1 0 1) / z1) then ((σ m 1 0 1) / z1) else (2 : Int32)) := ⟨_, rfl⟩
    replace hw := hw z3 e_z3
    refine gx_top e_z3 ?_
    exact gx_iret C rfl rfl dX2_pullsUntilTear_28 hw
  · replace hw := hw.2 c2
    refine gx_iconst (v := (2 : Int32)) C dX2_pullsUntilTear_12 (by decide) ?_
    refine gx_goto (tgt := 28) C dX2_pullsUntilTear_13 (by decide) ?_
    exact gx_iret C rfl rfl dX2_pullsUntilTear_28 hw
theorem hy_X2_pullsUntilTear : yX2_pullsUntilTear.cls = "SweetWraps$Machine" ∧ yX2_pullsUntilTear.cls ≠ "java/lang/invoke/MethodHandle" ∧ yX2_pullsUntilTear.cls ≠ "java/lang/invoke/VarHandle" ∧ (parseMethodDescriptor yX2_pullsUntilTear.desc).map (fun d => d.parameters.length) = some 0 := by decide +kernel

theorem dX4_hasRoomFor_0 : decode cX4_hasRoomFor 0 = .ok (.aload_n 0, 1) := by decide +kernel
theorem dX4_hasRoomFor_1 : decode cX4_hasRoomFor 1 = .ok (.getfield 26, 3) := by decide +kernel
theorem dX4_hasRoomFor_4 : decode cX4_hasRoomFor 4 = .ok (.ifCond .ne 24, 3) := by decide +kernel
theorem dX4_hasRoomFor_7 : decode cX4_hasRoomFor 7 = .ok (.aload_n 0, 1) := by decide +kernel
theorem dX4_hasRoomFor_8 : decode cX4_hasRoomFor 8 = .ok (.getfield 23, 3) := by decide +kernel
theorem dX4_hasRoomFor_11 : decode cX4_hasRoomFor 11 = .ok (.iload_n 1, 1) := by decide +kernel
theorem dX4_hasRoomFor_12 : decode cX4_hasRoomFor 12 = .ok (.if_icmp .ge 16, 3) := by decide +kernel
theorem dX4_hasRoomFor_15 : decode cX4_hasRoomFor 15 = .ok (.aload_n 0, 1) := by decide +kernel
theorem dX4_hasRoomFor_16 : decode cX4_hasRoomFor 16 = .ok (.getfield 19, 3) := by decide +kernel
theorem dX4_hasRoomFor_19 : decode cX4_hasRoomFor 19 = .ok (.iload_n 2, 1) := by decide +kernel
theorem dX4_hasRoomFor_20 : decode cX4_hasRoomFor 20 = .ok (.iand, 1) := by decide +kernel
theorem dX4_hasRoomFor_21 : decode cX4_hasRoomFor 21 = .ok (.ifCond .ne 7, 3) := by decide +kernel
theorem dX4_hasRoomFor_24 : decode cX4_hasRoomFor 24 = .ok (.iconst 1, 1) := by decide +kernel
theorem dX4_hasRoomFor_25 : decode cX4_hasRoomFor 25 = .ok (.goto 4, 3) := by decide +kernel
theorem dX4_hasRoomFor_28 : decode cX4_hasRoomFor 28 = .ok (.iconst 0, 1) := by decide +kernel
theorem dX4_hasRoomFor_29 : decode cX4_hasRoomFor 29 = .ok (.ireturn, 1) := by decide +kernel
def wp_X4_hasRoomFor (m : Nat) (i : Nat) (x1 : Int32) (x2 : Int32) (σ : Sg) (Q : Int32 → Sg → Prop) : Prop := ((¬ (σ m 8 i 3) = 0 → Q (0 : Int32) σ) ∧ ((σ m 8 i 3) = 0 → ((x1 ≤ (σ m 8 i 2) → Q (0 : Int32) σ) ∧ (¬ x1 ≤ (σ m 8 i 2) → ((¬ ((σ m 8 i 1) &&& x2) = 0 → Q (0 : Int32) σ) ∧ (((σ m 8 i 1) &&& x2) = 0 → Q (1 : Int32) σ))))))
set_option maxRecDepth 100000 in
set_option maxHeartbeats 4000000 in
theorem c_X4_hasRoomFor (l : Launch) (E : Ev) {m : Nat} {i : Nat} {x1 : Int32} {x2 : Int32} (hm : m < 11) (hi : i < 16) {σ : Sg} {Q : Int32 → Sg → Prop} (hw : wp_X4_hasRoomFor m i x1 x2 σ Q) : CT l E yX4_hasRoomFor cX4_hasRoomFor 3 (some .boolean) 0 0 [.ref (ad E m 8 i), .int x1, .int x2] σ (QI E Q) := by
  refine CT_of (by decide) (Nat.le_of_ble_eq_true rfl) (fun X h1 h2 C => ?_)
  subst h1; subst h2
  have C : Cx X cX4_hasRoomFor "SweetWraps$Tin" (some .boolean) 0 0 3 (QI (tE X) Q) := C
  show G X σ [(0, .ref (ad (tE X) m 8 i)), (1, .int x1), (2, .int x2)] [] 0
  unfold wp_X4_hasRoomFor at hw
  refine gx_aload_n C dX4_hasRoomFor_0 0 rfl ?_
  refine gx_get C (ok8 hm hi) rfl rfl inX4 (ref := "SweetWraps$Tin") 3 (by decide) bw_82 rfl rfl dX4_hasRoomFor_1 ?_
  refine gx_if_ne (tgt := 28) C dX4_hasRoomFor_4 (by decide) (fun c1 => ?_) (fun c1 => ?_)
  · replace hw := hw.1 c1
    refine gx_iconst (v := (0 : Int32)) C dX4_hasRoomFor_28 (by decide) ?_
    exact gx_iret C rfl rfl dX4_hasRoomFor_29 hw
  · replace hw := hw.2 c1
    refine gx_aload_n C dX4_hasRoomFor_7 0 rfl ?_
    refine gx_get C (ok8 hm hi) rfl rfl inX4 (ref := "SweetWraps$Tin") 2 (by decide) bw_80 rfl rfl dX4_hasRoomFor_8 ?_
    refine gx_iload_n C dX4_hasRoomFor_11 1 rfl ?_
    refine gx_icmp_ge (tgt := 28) C dX4_hasRoomFor_12 (by decide) (fun c2 => ?_) (fun c2 => ?_)
    · replace hw := hw.1 c2
      refine gx_iconst (v := (0 : Int32)) C dX4_hasRoomFor_28 (by decide) ?_
      exact gx_iret C rfl rfl dX4_hasRoomFor_29 hw
    · replace hw := hw.2 c2
      refine gx_aload_n C dX4_hasRoomFor_15 0 rfl ?_
      refine gx_get C (ok8 hm hi) rfl rfl inX4 (ref := "SweetWraps$Tin") 1 (by decide) bw_78 rfl rfl dX4_hasRoomFor_16 ?_
      refine gx_iload_n C dX4_hasRoomFor_19 2 rfl ?_
      refine gx_iand C dX4_hasRoomFor_20 ?_
      refine gx_if_ne (tgt := 28) C dX4_hasRoomFor_21 (by decide) (fun c3 => ?_) (fun c3 => ?_)
      · replace hw := hw.1 c3
        refine gx_iconst (v := (0 : Int32)) C dX4_hasRoomFor_28 (by decide) ?_
        exact gx_iret C rfl rfl dX4_hasRoomFor_29 hw
      · replace hw := hw.2 c3
        refine gx_iconst (v := (1 : Int32)) C dX4_hasRoomFor_24 (by decide) ?_
        refine gx_goto (tgt := 29) C dX4_hasRoomFor_25 (by decide) ?_
        exact gx_iret C rfl rfl dX4_hasRoomFor_29 hw
theorem hy_X4_hasRoomFor : yX4_hasRoomFor.cls = "SweetWraps$Tin" ∧ yX4_hasRoomFor.cls ≠ "java/lang/invoke/MethodHandle" ∧ yX4_hasRoomFor.cls ≠ "java/lang/invoke/VarHandle" ∧ (parseMethodDescriptor yX4_hasRoomFor.desc).map (fun d => d.parameters.length) = some 2 := by decide +kernel

theorem dX2_tinFor_0 : decode cX2_tinFor 0 = .ok (.iload_n 1, 1) := by decide +kernel
theorem dX2_tinFor_1 : decode cX2_tinFor 1 = .ok (.bipush 6, 2) := by decide +kernel
theorem dX2_tinFor_3 : decode cX2_tinFor 3 = .ok (.invokestatic 56, 3) := by decide +kernel
theorem dX2_tinFor_6 : decode cX2_tinFor 6 = .ok (.ifCond .ne 6, 3) := by decide +kernel
theorem dX2_tinFor_9 : decode cX2_tinFor 9 = .ok (.bipush (-6), 2) := by decide +kernel
theorem dX2_tinFor_11 : decode cX2_tinFor 11 = .ok (.ireturn, 1) := by decide +kernel
theorem dX2_tinFor_12 : decode cX2_tinFor 12 = .ok (.iconst 0, 1) := by decide +kernel
theorem dX2_tinFor_13 : decode cX2_tinFor 13 = .ok (.istore_n 2, 1) := by decide +kernel
theorem dX2_tinFor_14 : decode cX2_tinFor 14 = .ok (.iload_n 2, 1) := by decide +kernel
theorem dX2_tinFor_15 : decode cX2_tinFor 15 = .ok (.aload_n 0, 1) := by decide +kernel
theorem dX2_tinFor_16 : decode cX2_tinFor 16 = .ok (.getfield 43, 3) := by decide +kernel
theorem dX2_tinFor_19 : decode cX2_tinFor 19 = .ok (.if_icmp .ge 41, 3) := by decide +kernel
theorem dX2_tinFor_22 : decode cX2_tinFor 22 = .ok (.iload_n 2, 1) := by decide +kernel
theorem dX2_tinFor_23 : decode cX2_tinFor 23 = .ok (.bipush 16, 2) := by decide +kernel
theorem dX2_tinFor_25 : decode cX2_tinFor 25 = .ok (.if_icmp .ge 35, 3) := by decide +kernel
theorem dX2_tinFor_28 : decode cX2_tinFor 28 = .ok (.aload_n 0, 1) := by decide +kernel
theorem dX2_tinFor_29 : decode cX2_tinFor 29 = .ok (.getfield 23, 3) := by decide +kernel
theorem dX2_tinFor_32 : decode cX2_tinFor 32 = .ok (.iload_n 2, 1) := by decide +kernel
theorem dX2_tinFor_33 : decode cX2_tinFor 33 = .ok (.aaload, 1) := by decide +kernel
theorem dX2_tinFor_34 : decode cX2_tinFor 34 = .ok (.aload_n 0, 1) := by decide +kernel
theorem dX2_tinFor_35 : decode cX2_tinFor 35 = .ok (.getfield 9, 3) := by decide +kernel
theorem dX2_tinFor_38 : decode cX2_tinFor 38 = .ok (.iconst 2, 1) := by decide +kernel
theorem dX2_tinFor_39 : decode cX2_tinFor 39 = .ok (.iaload, 1) := by decide +kernel
theorem dX2_tinFor_40 : decode cX2_tinFor 40 = .ok (.aload_n 0, 1) := by decide +kernel
theorem dX2_tinFor_41 : decode cX2_tinFor 41 = .ok (.getfield 27, 3) := by decide +kernel
theorem dX2_tinFor_44 : decode cX2_tinFor 44 = .ok (.iload_n 1, 1) := by decide +kernel
theorem dX2_tinFor_45 : decode cX2_tinFor 45 = .ok (.iaload, 1) := by decide +kernel
theorem dX2_tinFor_46 : decode cX2_tinFor 46 = .ok (.invokevirtual 141, 3) := by decide +kernel
theorem dX2_tinFor_49 : decode cX2_tinFor 49 = .ok (.ifCond .eq 5, 3) := by decide +kernel
theorem dX2_tinFor_52 : decode cX2_tinFor 52 = .ok (.iload_n 2, 1) := by decide +kernel
theorem dX2_tinFor_53 : decode cX2_tinFor 53 = .ok (.ireturn, 1) := by decide +kernel
theorem dX2_tinFor_54 : decode cX2_tinFor 54 = .ok (.iinc 2 1, 3) := by decide +kernel
theorem dX2_tinFor_57 : decode cX2_tinFor 57 = .ok (.goto (-43), 3) := by decide +kernel
theorem dX2_tinFor_60 : decode cX2_tinFor 60 = .ok (.bipush (-6), 2) := by decide +kernel
theorem dX2_tinFor_62 : decode cX2_tinFor 62 = .ok (.ireturn, 1) := by decide +kernel
def st_X2_tinFor_L14 (m : Nat) (x1 : Int32) (Q : Int32 → Sg → Prop) (K14 : Int32 → Sg → Prop) (v2 : Int32) (σ : Sg) : Prop := (((σ m 0 0 4) ≤ v2 → Q (-6 : Int32) σ) ∧ (¬ (σ m 0 0 4) ≤ v2 → (((16 : Int32) ≤ v2 → Q (-6 : Int32) σ) ∧ (¬ (16 : Int32) ≤ v2 → (vp_in v2 16 ∧ ∀ a7 : Nat, a7 = v2.toNatClampNeg → (vp_in x1 6 ∧ wp_X4_hasRoomFor m a7 (σ m 1 0 2) (σ m 4 0 x1.toNatClampNeg) σ (fun r8 σ9 => ((r8 = 0 → ∀ z11 : Int32, z11 = v2 + (1 : Int32) → K14 z11 σ9) ∧ (¬ r8 = 0 → Q v2 σ9)))))))))
def wp_X2_tinFor_L14 (m : Nat) (x1 : Int32) (Q : Int32 → Sg → Prop) (v2 : Int32) (σ : Sg) : Prop := ∃ n : Nat, lpN (fun (K : Int32 × Sg → Prop) (a : Int32 × Sg) => st_X2_tinFor_L14 m x1 Q (fun v2 σ => K (v2, σ)) (a.1) (a.2)) n (v2, σ)
set_option maxRecDepth 100000 in
set_option maxHeartbeats 4000000 in
theorem gs_X2_tinFor_L14 {X : Tx} {Q : Int32 → Sg → Prop} (C : Cx X cX2_tinFor "SweetWraps$Machine" (some .int) 1 22 3 (QI (tE X) Q)) {m : Nat} {x1 : Int32} (hm : m < 11) {K14 : Int32 → Sg → Prop} (hK14 : ∀ (v2 : Int32) (σ : Sg), K14 v2 σ → G X σ [(0, .ref (ad (tE X) m 0 0)), (1, .int x1), (2, .int v2)] [] 14) {v2 : Int32} {σ : Sg} (hw : st_X2_tinFor_L14 m x1 Q K14 v2 σ) : G X σ [(0, .ref (ad (tE X) m 0 0)), (1, .int x1), (2, .int v2)] [] 14 := by
  unfold st_X2_tinFor_L14 at hw
  refine gx_iload_n C dX2_tinFor_14 2 rfl ?_
  refine gx_aload_n C dX2_tinFor_15 0 rfl ?_
  refine gx_get C (ok0 hm) rfl rfl inX2 (ref := "SweetWraps$Machine") 4 (by decide) bw_99 rfl rfl dX2_tinFor_16 ?_
  refine gx_icmp_ge (tgt := 60) C dX2_tinFor_19 (by decide) (fun c4 => ?_) (fun c4 => ?_)
  · replace hw := hw.1 c4
    refine gx_bipush (v := (-6 : Int32)) C dX2_tinFor_60 (by decide) ?_
    exact gx_iret C rfl rfl dX2_tinFor_62 hw
  · replace hw := hw.2 c4
    refine gx_iload_n C dX2_tinFor_22 2 rfl ?_
    refine gx_bipush (v := (16 : Int32)) C dX2_tinFor_23 (by decide) ?_
    refine gx_icmp_ge (tgt := 60) C dX2_tinFor_25 (by decide) (fun c5 => ?_) (fun c5 => ?_)
    · replace hw := hw.1 c5
      refine gx_bipush (v := (-6 : Int32)) C dX2_tinFor_60 (by decide) ?_
      exact gx_iret C rfl rfl dX2_tinFor_62 hw
    · replace hw := hw.2 c5
      refine gx_aload_n C dX2_tinFor_28 0 rfl ?_
      refine gx_get C (ok0 hm) rfl rfl inX2 (ref := "SweetWraps$Machine") 2 (by decide) bw_97 rfl rfl dX2_tinFor_29 ?_
      refine gx_iload_n C dX2_tinFor_32 2 rfl ?_
      have h6 := hw.1
      replace hw := hw.2
      obtain ⟨a7, e_a7⟩ : ∃ z : Nat, z = v2.toNatClampNeg := ⟨_, rfl⟩
      replace hw := hw a7 e_a7
      have ha7 : a7 < 16 := by rw [e_a7]; exact vp_lt h6
      refine gx_aald C (ok3 hm) rfl (t0 := 4) rfl h6 (v := .ref (ad (tE X) m 8 a7)) (by rw [e_a7]; rfl) dX2_tinFor_33 ?_
      refine gx_aload_n C dX2_tinFor_34 0 rfl ?_
      refine gx_get C (ok0 hm) rfl rfl inX2 (ref := "SweetWraps$Machine") 0 (by decide) bw_93 rfl rfl dX2_tinFor_35 ?_
      refine gx_iconst (v := (2 : Int32)) C dX2_tinFor_38 (by decide) ?_
      refine gx_iald C (ok1 hm) rfl (n := 4) (x := (2 : Int32)) (by unfold vp_in; decide) 2 (by decide) dX2_tinFor_39 ?_
      refine gx_aload_n C dX2_tinFor_40 0 rfl ?_
      refine gx_get C (ok0 hm) rfl rfl inX2 (ref := "SweetWraps$Machine") 3 (by decide) bw_98 rfl rfl dX2_tinFor_41 ?_
      refine gx_iload_n C dX2_tinFor_44 1 rfl ?_
      refine gx_iald C (ok4 hm) rfl hw.1 _ rfl dX2_tinFor_45 ?_
      replace hw := hw.2
      refine gx_vcalli (As := [.int (σ m 1 0 2), .int (σ m 4 0 x1.toNatClampNeg)]) (rest := []) C (c_X4_hasRoomFor _ _ hm ha7 hw) (ok8 hm ha7) rfl rfl bw_348 bw_349 bw_350 bw_4 bw_351 hy_X4_hasRoomFor ⟨by decide, by decide⟩ rfl (Nat.le_of_ble_eq_true rfl) dX2_tinFor_46 (fun r8 σ9 hw => ?_)
      refine gx_if_eq (tgt := 54) C dX2_tinFor_49 (by decide) (fun c10 => ?_) (fun c10 => ?_)
      · replace hw := hw.1 c10
        obtain ⟨z11, e_z11⟩ : ∃ z : Int32, z = v2 + (1 : Int32) := ⟨_, rfl⟩
        replace hw := hw z11 e_z11
        refine gx_iinc (v := z11) (lv' := [(2, .int z11), (0, .ref (ad (tE X) m 0 0)), (1, .int x1)]) C dX2_tinFor_54 2 rfl (by rw [e_z11]; rfl) (by decide) rfl ?_
        refine gx_goto (tgt := 14) C dX2_tinFor_57 (by decide) ?_
        refine gx_sub (lv' := [(0, .ref (ad (tE X) m 0 0)), (1, .int x1), (2, .int z11)]) [1, 2, 0] rfl ?_
        exact hK14 _ _ hw
      · replace hw := hw.2 c10
        refine gx_iload_n C dX2_tinFor_52 2 rfl ?_
        exact gx_iret C rfl rfl dX2_tinFor_53 hw
set_option maxRecDepth 100000 in
set_option maxHeartbeats 4000000 in
theorem g_X2_tinFor_L14 {X : Tx} {Q : Int32 → Sg → Prop} (C : Cx X cX2_tinFor "SweetWraps$Machine" (some .int) 1 22 3 (QI (tE X) Q)) {m : Nat} {x1 : Int32} (hm : m < 11) {v2 : Int32} {σ : Sg} (hw : wp_X2_tinFor_L14 m x1 Q v2 σ) : G X σ [(0, .ref (ad (tE X) m 0 0)), (1, .int x1), (2, .int v2)] [] 14 := by
  obtain ⟨n, hw⟩ := hw
  exact lpN_G (P := (fun (a : Int32 × Sg) => G X (a.2) [(0, .ref (ad (tE X) m 0 0)), (1, .int x1), (2, .int (a.1))] [] 14)) (fun K a hK h => gs_X2_tinFor_L14 C hm (fun v2 σ h => hK (v2, σ) h) h) n _ hw
def wp_X2_tinFor (m : Nat) (x1 : Int32) (σ : Sg) (Q : Int32 → Sg → Prop) : Prop := wp_X5_isIndex x1 (6 : Int32) σ (fun r1 σ2 => ((¬ r1 = 0 → wp_X2_tinFor_L14 m x1 Q (0 : Int32) σ2) ∧ (r1 = 0 → Q (-6 : Int32) σ2)))
set_option maxRecDepth 100000 in
set_option maxHeartbeats 4000000 in
theorem c_X2_tinFor (l : Launch) (E : Ev) {m : Nat} {x1 : Int32} (hm : m < 11) {σ : Sg} {Q : Int32 → Sg → Prop} (hw : wp_X2_tinFor m x1 σ Q) : CT l E yX2_tinFor cX2_tinFor 3 (some .int) 1 22 [.ref (ad E m 0 0), .int x1] σ (QI E Q) := by
  refine CT_of (by decide) (Nat.le_of_ble_eq_true rfl) (fun X h1 h2 C => ?_)
  subst h1; subst h2
  have C : Cx X cX2_tinFor "SweetWraps$Machine" (some .int) 1 22 3 (QI (tE X) Q) := C
  show G X σ [(0, .ref (ad (tE X) m 0 0)), (1, .int x1)] [] 0
  unfold wp_X2_tinFor at hw
  refine gx_iload_n C dX2_tinFor_0 1 rfl ?_
  refine gx_bipush (v := (6 : Int32)) C dX2_tinFor_1 (by decide) ?_
  refine gx_ncalli (As := [.int x1, .int (6 : Int32)]) (rest := []) (host := "SweetWraps") C (c_X5_isIndex _ _ hw) (nest_in _ (by decide +kernel)) bw_226 bw_1 bw_227 hyS_X5_isIndex ⟨by decide, by decide⟩ rfl (Nat.le_of_ble_eq_true rfl) dX2_tinFor_3 (fun r1 σ2 hw => ?_)
  refine gx_if_ne (tgt := 12) C dX2_tinFor_6 (by decide) (fun c3 => ?_) (fun c3 => ?_)
  · replace hw := hw.1 c3
    refine gx_iconst (v := (0 : Int32)) C dX2_tinFor_12 (by decide) ?_
    refine gx_istore_n (lv' := [(2, .int (0 : Int32)), (0, .ref (ad (tE X) m 0 0)), (1, .int x1)]) C dX2_tinFor_13 (by decide) rfl ?_
    refine gx_sub (lv' := [(0, .ref (ad (tE X) m 0 0)), (1, .int x1), (2, .int (0 : Int32))]) [1, 2, 0] rfl ?_
    exact g_X2_tinFor_L14 C hm hw
  · replace hw := hw.2 c3
    refine gx_bipush (v := (-6 : Int32)) C dX2_tinFor_9 (by decide) ?_
    exact gx_iret C rfl rfl dX2_tinFor_11 hw
theorem hy_X2_tinFor : yX2_tinFor.cls = "SweetWraps$Machine" ∧ yX2_tinFor.cls ≠ "java/lang/invoke/MethodHandle" ∧ yX2_tinFor.cls ≠ "java/lang/invoke/VarHandle" ∧ (parseMethodDescriptor yX2_tinFor.desc).map (fun d => d.parameters.length) = some 1 := by decide +kernel
end
section
theorem dX2_reasonOf_0 : decode cX2_reasonOf 0 = .ok (.aload_n 1, 1) := by decide +kernel
theorem dX2_reasonOf_1 : decode cX2_reasonOf 1 = .ok (.getfield 138, 3) := by decide +kernel
theorem dX2_reasonOf_4 : decode cX2_reasonOf 4 = .ok (.ifCond .ne 5, 3) := by decide +kernel
theorem dX2_reasonOf_7 : decode cX2_reasonOf 7 = .ok (.iconst 1, 1) := by decide +kernel
theorem dX2_reasonOf_8 : decode cX2_reasonOf 8 = .ok (.ireturn, 1) := by decide +kernel
theorem dX2_reasonOf_9 : decode cX2_reasonOf 9 = .ok (.iload_n 2, 1) := by decide +kernel
theorem dX2_reasonOf_10 : decode cX2_reasonOf 10 = .ok (.bipush (-6), 2) := by decide +kernel
theorem dX2_reasonOf_12 : decode cX2_reasonOf 12 = .ok (.if_icmp .ne 5, 3) := by decide +kernel
theorem dX2_reasonOf_15 : decode cX2_reasonOf 15 = .ok (.iconst 2, 1) := by decide +kernel
theorem dX2_reasonOf_16 : decode cX2_reasonOf 16 = .ok (.ireturn, 1) := by decide +kernel
theorem dX2_reasonOf_17 : decode cX2_reasonOf 17 = .ok (.aload_n 1, 1) := by decide +kernel
theorem dX2_reasonOf_18 : decode cX2_reasonOf 18 = .ok (.getfield 74, 3) := by decide +kernel
theorem dX2_reasonOf_21 : decode cX2_reasonOf 21 = .ok (.aload_n 0, 1) := by decide +kernel
theorem dX2_reasonOf_22 : decode cX2_reasonOf 22 = .ok (.invokevirtual 103, 3) := by decide +kernel
theorem dX2_reasonOf_25 : decode cX2_reasonOf 25 = .ok (.if_icmp .ge 7, 3) := by decide +kernel
theorem dX2_reasonOf_28 : decode cX2_reasonOf 28 = .ok (.iconst 3, 1) := by decide +kernel
theorem dX2_reasonOf_29 : decode cX2_reasonOf 29 = .ok (.goto 4, 3) := by decide +kernel
theorem dX2_reasonOf_32 : decode cX2_reasonOf 32 = .ok (.iconst 0, 1) := by decide +kernel
theorem dX2_reasonOf_33 : decode cX2_reasonOf 33 = .ok (.ireturn, 1) := by decide +kernel
def wp_X2_reasonOf (m : Nat) (i1 : Nat) (x2 : Int32) (σ : Sg) (Q : Int32 → Sg → Prop) : Prop := ((¬ (σ m 5 i1 2) = 0 → ((¬ x2 = (-6 : Int32) → wp_X2_foilOfPull m σ (fun r3 σ4 => ((r3 ≤ (σ m 5 i1 3) → Q (0 : Int32) σ4) ∧ (¬ r3 ≤ (σ m 5 i1 3) → Q (3 : Int32) σ4)))) ∧ (x2 = (-6 : Int32) → Q (2 : Int32) σ))) ∧ ((σ m 5 i1 2) = 0 → Q (1 : Int32) σ))
set_option maxRecDepth 100000 in
set_option maxHeartbeats 4000000 in
theorem c_X2_reasonOf (l : Launch) (E : Ev) {m : Nat} {i1 : Nat} {x2 : Int32} (hm : m < 11) (hi1 : i1 < 4) {σ : Sg} {Q : Int32 → Sg → Prop} (hw : wp_X2_reasonOf m i1 x2 σ Q) : CT l E yX2_reasonOf cX2_reasonOf 3 (some .int) 1 20 [.ref (ad E m 0 0), .ref (ad E m 5 i1), .int x2] σ (QI E Q) := by
  refine CT_of (by decide) (Nat.le_of_ble_eq_true rfl) (fun X h1 h2 C => ?_)
  subst h1; subst h2
  have C : Cx X cX2_reasonOf "SweetWraps$Machine" (some .int) 1 20 3 (QI (tE X) Q) := C
  show G X σ [(0, .ref (ad (tE X) m 0 0)), (1, .ref (ad (tE X) m 5 i1)), (2, .int x2)] [] 0
  unfold wp_X2_reasonOf at hw
  refine gx_aload_n C dX2_reasonOf_0 1 rfl ?_
  refine gx_get C (ok5 hm hi1) rfl rfl inX1 (ref := "SweetWraps$Lane") 2 (by decide) bw_42 rfl rfl dX2_reasonOf_1 ?_
  refine gx_if_ne (tgt := 9) C dX2_reasonOf_4 (by decide) (fun c1 => ?_) (fun c1 => ?_)
  · replace hw := hw.1 c1
    refine gx_iload_n C dX2_reasonOf_9 2 rfl ?_
    refine gx_bipush (v := (-6 : Int32)) C dX2_reasonOf_10 (by decide) ?_
    refine gx_icmp_ne (tgt := 17) C dX2_reasonOf_12 (by decide) (fun c2 => ?_) (fun c2 => ?_)
    · replace hw := hw.1 c2
      refine gx_aload_n C dX2_reasonOf_17 1 rfl ?_
      refine gx_get C (ok5 hm hi1) rfl rfl inX1 (ref := "SweetWraps$Lane") 3 (by decide) bw_44 rfl rfl dX2_reasonOf_18 ?_
      refine gx_aload_n C dX2_reasonOf_21 0 rfl ?_
      refine gx_vcalli (As := []) (rest := [.int (σ m 5 i1 3)]) C (c_X2_foilOfPull _ _ hm hw) (ok0 hm) rfl rfl bw_329 bw_331 bs_5 bw_2 bw_332 hy_X2_foilOfPull ⟨by decide, by decide⟩ rfl (Nat.le_of_ble_eq_true rfl) dX2_reasonOf_22 (fun r3 σ4 hw => ?_)
      refine gx_icmp_ge (tgt := 32) C dX2_reasonOf_25 (by decide) (fun c5 => ?_) (fun c5 => ?_)
      · replace hw := hw.1 c5
        refine gx_iconst (v := (0 : Int32)) C dX2_reasonOf_32 (by decide) ?_
        exact gx_iret C rfl rfl dX2_reasonOf_33 hw
      · replace hw := hw.2 c5
        refine gx_iconst (v := (3 : Int32)) C dX2_reasonOf_28 (by decide) ?_
        refine gx_goto (tgt := 33) C dX2_reasonOf_29 (by decide) ?_
        exact gx_iret C rfl rfl dX2_reasonOf_33 hw
    · replace hw := hw.2 c2
      refine gx_iconst (v := (2 : Int32)) C dX2_reasonOf_15 (by decide) ?_
      exact gx_iret C rfl rfl dX2_reasonOf_16 hw
  · replace hw := hw.2 c1
    refine gx_iconst (v := (1 : Int32)) C dX2_reasonOf_7 (by decide) ?_
    exact gx_iret C rfl rfl dX2_reasonOf_8 hw
theorem hy_X2_reasonOf : yX2_reasonOf.cls = "SweetWraps$Machine" ∧ yX2_reasonOf.cls ≠ "java/lang/invoke/MethodHandle" ∧ yX2_reasonOf.cls ≠ "java/lang/invoke/VarHandle" ∧ (parseMethodDescriptor yX2_reasonOf.desc).map (fun d => d.parameters.length) = some 2 := by decide +kernel

theorem dX4_add_0 : decode cX4_add 0 = .ok (.iload_n 1, 1) := by decide +kernel
theorem dX4_add_1 : decode cX4_add 1 = .ok (.bipush 6, 2) := by decide +kernel
theorem dX4_add_3 : decode cX4_add 3 = .ok (.invokestatic 30, 3) := by decide +kernel
theorem dX4_add_6 : decode cX4_add 6 = .ok (.ifCond .ne 4, 3) := by decide +kernel
theorem dX4_add_9 : decode cX4_add 9 = .ok (.return_, 1) := by decide +kernel
theorem dX4_add_10 : decode cX4_add 10 = .ok (.aload_n 0, 1) := by decide +kernel
theorem dX4_add_11 : decode cX4_add 11 = .ok (.getfield 9, 3) := by decide +kernel
theorem dX4_add_14 : decode cX4_add 14 = .ok (.iload_n 1, 1) := by decide +kernel
theorem dX4_add_15 : decode cX4_add 15 = .ok (.dup2, 1) := by decide +kernel
theorem dX4_add_16 : decode cX4_add 16 = .ok (.iaload, 1) := by decide +kernel
theorem dX4_add_17 : decode cX4_add 17 = .ok (.iconst 1, 1) := by decide +kernel
theorem dX4_add_18 : decode cX4_add 18 = .ok (.iadd, 1) := by decide +kernel
theorem dX4_add_19 : decode cX4_add 19 = .ok (.iastore, 1) := by decide +kernel
theorem dX4_add_20 : decode cX4_add 20 = .ok (.aload_n 0, 1) := by decide +kernel
theorem dX4_add_21 : decode cX4_add 21 = .ok (.dup, 1) := by decide +kernel
theorem dX4_add_22 : decode cX4_add 22 = .ok (.getfield 19, 3) := by decide +kernel
theorem dX4_add_25 : decode cX4_add 25 = .ok (.iconst 1, 1) := by decide +kernel
theorem dX4_add_26 : decode cX4_add 26 = .ok (.iload_n 1, 1) := by decide +kernel
theorem dX4_add_27 : decode cX4_add 27 = .ok (.ishl, 1) := by decide +kernel
theorem dX4_add_28 : decode cX4_add 28 = .ok (.ior, 1) := by decide +kernel
theorem dX4_add_29 : decode cX4_add 29 = .ok (.putfield 19, 3) := by decide +kernel
theorem dX4_add_32 : decode cX4_add 32 = .ok (.aload_n 0, 1) := by decide +kernel
theorem dX4_add_33 : decode cX4_add 33 = .ok (.dup, 1) := by decide +kernel
theorem dX4_add_34 : decode cX4_add 34 = .ok (.getfield 23, 3) := by decide +kernel
theorem dX4_add_37 : decode cX4_add 37 = .ok (.iconst 1, 1) := by decide +kernel
theorem dX4_add_38 : decode cX4_add 38 = .ok (.iadd, 1) := by decide +kernel
theorem dX4_add_39 : decode cX4_add 39 = .ok (.putfield 23, 3) := by decide +kernel
theorem dX4_add_42 : decode cX4_add 42 = .ok (.return_, 1) := by decide +kernel
def wp_X4_add (m : Nat) (i : Nat) (x1 : Int32) (σ : Sg) (Q : Sg → Prop) : Prop := wp_X5_isIndex x1 (6 : Int32) σ (fun r1 σ2 => ((¬ r1 = 0 → (vp_in x1 6 ∧ (vp_in x1 6 ∧ ∀ σ4 : Sg, σ4 = up σ2 m 9 i x1.toNatClampNeg ((σ2 m 9 i x1.toNatClampNeg) + (1 : Int32)) → ∀ σ5 : Sg, σ5 = up σ4 m 8 i 1 ((σ4 m 8 i 1) ||| ((1 : Int32) <<< (x1 &&& 31))) → ∀ σ6 : Sg, σ6 = up σ5 m 8 i 2 ((σ5 m 8 i 2) + (1 : Int32)) → Q σ6))) ∧ (r1 = 0 → Q σ2)))
set_option maxRecDepth 100000 in
set_option maxHeartbeats 4000000 in
theorem c_X4_add (l : Launch) (E : Ev) {m : Nat} {i : Nat} {x1 : Int32} (hm : m < 11) (hi : i < 16) {σ : Sg} {Q : Sg → Prop} (hw : wp_X4_add m i x1 σ Q) : CT l E yX4_add cX4_add 2 none 1 21 [.ref (ad E m 8 i), .int x1] σ (QV E Q) := by
  refine CT_of (by decide) (Nat.le_of_ble_eq_true rfl) (fun X h1 h2 C => ?_)
  subst h1; subst h2
  have C : Cx X cX4_add "SweetWraps$Tin" none 1 21 2 (QV (tE X) Q) := C
  show G X σ [(0, .ref (ad (tE X) m 8 i)), (1, .int x1)] [] 0
  unfold wp_X4_add at hw
  refine gx_iload_n C dX4_add_0 1 rfl ?_
  refine gx_bipush (v := (6 : Int32)) C dX4_add_1 (by decide) ?_
  refine gx_ncalli (As := [.int x1, .int (6 : Int32)]) (rest := []) (host := "SweetWraps") C (c_X5_isIndex _ _ hw) (nest_in _ (by decide +kernel)) bw_226 bw_1 bw_227 hyS_X5_isIndex ⟨by decide, by decide⟩ rfl (Nat.le_of_ble_eq_true rfl) dX4_add_3 (fun r1 σ2 hw => ?_)
  refine gx_if_ne (tgt := 10) C dX4_add_6 (by decide) (fun c3 => ?_) (fun c3 => ?_)
  · replace hw := hw.1 c3
    refine gx_aload_n C dX4_add_10 0 rfl ?_
    refine gx_get C (ok8 hm hi) rfl rfl inX4 (ref := "SweetWraps$Tin") 0 (by decide) bw_76 rfl rfl dX4_add_11 ?_
    refine gx_iload_n C dX4_add_14 1 rfl ?_
    refine gx_dup2 C dX4_add_15 rfl rfl ?_
    refine gx_iald C (ok9 hm hi) rfl hw.1 _ rfl dX4_add_16 ?_
    replace hw := hw.2
    refine gx_iconst (v := (1 : Int32)) C dX4_add_17 (by decide) ?_
    refine gx_iadd C dX4_add_18 ?_
    refine gx_iast C (ok9 hm hi) (fun _ => rfl) hw.1 _ rfl rfl dX4_add_19 ?_
    replace hw := hw.2
    obtain ⟨σ4, e_σ4⟩ : ∃ z : Sg, z = up σ2 m 9 i x1.toNatClampNeg ((σ2 m 9 i x1.toNatClampNeg) + (1 : Int32)) := ⟨_, rfl⟩
    replace hw := hw σ4 e_σ4
    refine gx_st e_σ4 ?_
    refine gx_aload_n C dX4_add_20 0 rfl ?_
    refine gx_dup C dX4_add_21 rfl ?_
    refine gx_get C (ok8 hm hi) rfl rfl inX4 (ref := "SweetWraps$Tin") 1 (by decide) bw_78 rfl rfl dX4_add_22 ?_
    refine gx_iconst (v := (1 : Int32)) C dX4_add_25 (by decide) ?_
    refine gx_iload_n C dX4_add_26 1 rfl ?_
    refine gx_ishl C dX4_add_27 ?_
    refine gx_ior C dX4_add_28 ?_
    refine gx_put C (ok8 hm hi) rfl rfl inX4 tyX4 tyX4_ok nmX4 (ref := "SweetWraps$Tin") 1 (by decide) bw_78 rfl rfl (v := .int ((σ4 m 8 i 1) ||| ((1 : Int32) <<< (x1 &&& 31)))) rfl rfl (Nat.le_of_ble_eq_true rfl) (upd (σ4 m 8 i) 1 ((σ4 m 8 i 1) ||| ((1 : Int32) <<< (x1 &&& 31)))) rfl dX4_add_29 ?_
    obtain ⟨σ5, e_σ5⟩ : ∃ z : Sg, z = up σ4 m 8 i 1 ((σ4 m 8 i 1) ||| ((1 : Int32) <<< (x1 &&& 31))) := ⟨_, rfl⟩
    replace hw := hw σ5 e_σ5
    refine gx_st e_σ5 ?_
    refine gx_aload_n C dX4_add_32 0 rfl ?_
    refine gx_dup C dX4_add_33 rfl ?_
    refine gx_get C (ok8 hm hi) rfl rfl inX4 (ref := "SweetWraps$Tin") 2 (by decide) bw_80 rfl rfl dX4_add_34 ?_
    refine gx_iconst (v := (1 : Int32)) C dX4_add_37 (by decide) ?_
    refine gx_iadd C dX4_add_38 ?_
    refine gx_put C (ok8 hm hi) rfl rfl inX4 tyX4 tyX4_ok nmX4 (ref := "SweetWraps$Tin") 2 (by decide) bw_80 rfl rfl (v := .int ((σ5 m 8 i 2) + (1 : Int32))) rfl rfl (Nat.le_of_ble_eq_true rfl) (upd (σ5 m 8 i) 2 ((σ5 m 8 i 2) + (1 : Int32))) rfl dX4_add_39 ?_
    obtain ⟨σ6, e_σ6⟩ : ∃ z : Sg, z = up σ5 m 8 i 2 ((σ5 m 8 i 2) + (1 : Int32)) := ⟨_, rfl⟩
    replace hw := hw σ6 e_σ6
    refine gx_st e_σ6 ?_
    exact gx_vret C dX4_add_42 hw
  · replace hw := hw.2 c3
    exact gx_vret C dX4_add_9 hw
theorem hy_X4_add : yX4_add.cls = "SweetWraps$Tin" ∧ yX4_add.cls ≠ "java/lang/invoke/MethodHandle" ∧ yX4_add.cls ≠ "java/lang/invoke/VarHandle" ∧ (parseMethodDescriptor yX4_add.desc).map (fun d => d.parameters.length) = some 1 := by decide +kernel

theorem dX2_workLane_0 : decode cX2_workLane 0 = .ok (.aload_n 0, 1) := by decide +kernel
theorem dX2_workLane_1 : decode cX2_workLane 1 = .ok (.invokevirtual 103, 3) := by decide +kernel
theorem dX2_workLane_4 : decode cX2_workLane 4 = .ok (.istore_n 2, 1) := by decide +kernel
theorem dX2_workLane_5 : decode cX2_workLane 5 = .ok (.aload_n 0, 1) := by decide +kernel
theorem dX2_workLane_6 : decode cX2_workLane 6 = .ok (.invokevirtual 107, 3) := by decide +kernel
theorem dX2_workLane_9 : decode cX2_workLane 9 = .ok (.istore_n 3, 1) := by decide +kernel
theorem dX2_workLane_10 : decode cX2_workLane 10 = .ok (.iconst 0, 1) := by decide +kernel
theorem dX2_workLane_11 : decode cX2_workLane 11 = .ok (.istore 4, 2) := by decide +kernel
theorem dX2_workLane_13 : decode cX2_workLane 13 = .ok (.aload_n 1, 1) := by decide +kernel
theorem dX2_workLane_14 : decode cX2_workLane 14 = .ok (.iconst 0, 1) := by decide +kernel
theorem dX2_workLane_15 : decode cX2_workLane 15 = .ok (.putfield 110, 3) := by decide +kernel
theorem dX2_workLane_18 : decode cX2_workLane 18 = .ok (.iconst 0, 1) := by decide +kernel
theorem dX2_workLane_19 : decode cX2_workLane 19 = .ok (.istore 5, 2) := by decide +kernel
theorem dX2_workLane_21 : decode cX2_workLane 21 = .ok (.iload 5, 2) := by decide +kernel
theorem dX2_workLane_23 : decode cX2_workLane 23 = .ok (.aload_n 0, 1) := by decide +kernel
theorem dX2_workLane_24 : decode cX2_workLane 24 = .ok (.getfield 9, 3) := by decide +kernel
theorem dX2_workLane_27 : decode cX2_workLane 27 = .ok (.iconst 0, 1) := by decide +kernel
theorem dX2_workLane_28 : decode cX2_workLane 28 = .ok (.iaload, 1) := by decide +kernel
theorem dX2_workLane_29 : decode cX2_workLane 29 = .ok (.if_icmp .ge 105, 3) := by decide +kernel
theorem dX2_workLane_32 : decode cX2_workLane 32 = .ok (.aload_n 1, 1) := by decide +kernel
theorem dX2_workLane_33 : decode cX2_workLane 33 = .ok (.invokevirtual 113, 3) := by decide +kernel
theorem dX2_workLane_36 : decode cX2_workLane 36 = .ok (.istore 6, 2) := by decide +kernel
theorem dX2_workLane_38 : decode cX2_workLane 38 = .ok (.aload_n 0, 1) := by decide +kernel
theorem dX2_workLane_39 : decode cX2_workLane 39 = .ok (.iload 6, 2) := by decide +kernel
theorem dX2_workLane_41 : decode cX2_workLane 41 = .ok (.invokevirtual 116, 3) := by decide +kernel
theorem dX2_workLane_44 : decode cX2_workLane 44 = .ok (.istore 7, 2) := by decide +kernel
theorem dX2_workLane_46 : decode cX2_workLane 46 = .ok (.aload_n 1, 1) := by decide +kernel
theorem dX2_workLane_47 : decode cX2_workLane 47 = .ok (.aload_n 0, 1) := by decide +kernel
theorem dX2_workLane_48 : decode cX2_workLane 48 = .ok (.aload_n 1, 1) := by decide +kernel
theorem dX2_workLane_49 : decode cX2_workLane 49 = .ok (.iload 7, 2) := by decide +kernel
theorem dX2_workLane_51 : decode cX2_workLane 51 = .ok (.invokevirtual 119, 3) := by decide +kernel
theorem dX2_workLane_54 : decode cX2_workLane 54 = .ok (.putfield 110, 3) := by decide +kernel
theorem dX2_workLane_57 : decode cX2_workLane 57 = .ok (.aload_n 1, 1) := by decide +kernel
theorem dX2_workLane_58 : decode cX2_workLane 58 = .ok (.getfield 110, 3) := by decide +kernel
theorem dX2_workLane_61 : decode cX2_workLane 61 = .ok (.ifCond .ne 13, 3) := by decide +kernel
theorem dX2_workLane_64 : decode cX2_workLane 64 = .ok (.iload 7, 2) := by decide +kernel
theorem dX2_workLane_66 : decode cX2_workLane 66 = .ok (.bipush 16, 2) := by decide +kernel
theorem dX2_workLane_68 : decode cX2_workLane 68 = .ok (.invokestatic 56, 3) := by decide +kernel
theorem dX2_workLane_71 : decode cX2_workLane 71 = .ok (.ifCond .ne 6, 3) := by decide +kernel
theorem dX2_workLane_74 : decode cX2_workLane 74 = .ok (.iload 4, 2) := by decide +kernel
theorem dX2_workLane_76 : decode cX2_workLane 76 = .ok (.ireturn, 1) := by decide +kernel
theorem dX2_workLane_77 : decode cX2_workLane 77 = .ok (.aload_n 0, 1) := by decide +kernel
theorem dX2_workLane_78 : decode cX2_workLane 78 = .ok (.dup, 1) := by decide +kernel
theorem dX2_workLane_79 : decode cX2_workLane 79 = .ok (.getfield 50, 3) := by decide +kernel
theorem dX2_workLane_82 : decode cX2_workLane 82 = .ok (.iload_n 2, 1) := by decide +kernel
theorem dX2_workLane_83 : decode cX2_workLane 83 = .ok (.iadd, 1) := by decide +kernel
theorem dX2_workLane_84 : decode cX2_workLane 84 = .ok (.putfield 50, 3) := by decide +kernel
theorem dX2_workLane_87 : decode cX2_workLane 87 = .ok (.aload_n 1, 1) := by decide +kernel
theorem dX2_workLane_88 : decode cX2_workLane 88 = .ok (.iload_n 2, 1) := by decide +kernel
theorem dX2_workLane_89 : decode cX2_workLane 89 = .ok (.iload_n 3, 1) := by decide +kernel
theorem dX2_workLane_90 : decode cX2_workLane 90 = .ok (.invokevirtual 123, 3) := by decide +kernel
theorem dX2_workLane_93 : decode cX2_workLane 93 = .ok (.ifCond .eq 16, 3) := by decide +kernel
theorem dX2_workLane_96 : decode cX2_workLane 96 = .ok (.aload_n 0, 1) := by decide +kernel
theorem dX2_workLane_97 : decode cX2_workLane 97 = .ok (.dup, 1) := by decide +kernel
theorem dX2_workLane_98 : decode cX2_workLane 98 = .ok (.getfield 53, 3) := by decide +kernel
theorem dX2_workLane_101 : decode cX2_workLane 101 = .ok (.iload_n 2, 1) := by decide +kernel
theorem dX2_workLane_102 : decode cX2_workLane 102 = .ok (.iadd, 1) := by decide +kernel
theorem dX2_workLane_103 : decode cX2_workLane 103 = .ok (.putfield 53, 3) := by decide +kernel
theorem dX2_workLane_106 : decode cX2_workLane 106 = .ok (.goto 22, 3) := by decide +kernel
theorem dX2_workLane_109 : decode cX2_workLane 109 = .ok (.aload_n 0, 1) := by decide +kernel
theorem dX2_workLane_110 : decode cX2_workLane 110 = .ok (.getfield 23, 3) := by decide +kernel
theorem dX2_workLane_113 : decode cX2_workLane 113 = .ok (.iload 7, 2) := by decide +kernel
theorem dX2_workLane_115 : decode cX2_workLane 115 = .ok (.aaload, 1) := by decide +kernel
theorem dX2_workLane_116 : decode cX2_workLane 116 = .ok (.iload 6, 2) := by decide +kernel
theorem dX2_workLane_118 : decode cX2_workLane 118 = .ok (.invokevirtual 126, 3) := by decide +kernel
theorem dX2_workLane_121 : decode cX2_workLane 121 = .ok (.aload_n 1, 1) := by decide +kernel
theorem dX2_workLane_122 : decode cX2_workLane 122 = .ok (.invokevirtual 130, 3) := by decide +kernel
theorem dX2_workLane_125 : decode cX2_workLane 125 = .ok (.iinc 4 1, 3) := by decide +kernel
theorem dX2_workLane_128 : decode cX2_workLane 128 = .ok (.iinc 5 1, 3) := by decide +kernel
theorem dX2_workLane_131 : decode cX2_workLane 131 = .ok (.goto (-110), 3) := by decide +kernel
theorem dX2_workLane_134 : decode cX2_workLane 134 = .ok (.iload 4, 2) := by decide +kernel
theorem dX2_workLane_136 : decode cX2_workLane 136 = .ok (.ireturn, 1) := by decide +kernel
def wp_X2_workLane_b128 (m : Nat) (i1 : Nat) (K21 : Int32 → Int32 → Int32 → Int32 → Sg → Prop) (Q : Int32 → Sg → Prop) (v2 : Int32) (v3 : Int32) (v4 : Int32) (v5 : Int32) (σ : Sg) : Prop := ∀ z28 : Int32, z28 = v5 + (1 : Int32) → K21 v2 v3 v4 z28 σ
set_option maxRecDepth 100000 in
set_option maxHeartbeats 4000000 in
theorem g_X2_workLane_b128 {X : Tx} {Q : Int32 → Sg → Prop} (C : Cx X cX2_workLane "SweetWraps$Machine" (some .int) 3 62 8 (QI (tE X) Q)) {m : Nat} {i1 : Nat} (hm : m < 11) (hi1 : i1 < 4) {K21 : Int32 → Int32 → Int32 → Int32 → Sg → Prop} (hK21 : ∀ (v2 : Int32) (v3 : Int32) (v4 : Int32) (v5 : Int32) (σ : Sg), K21 v2 v3 v4 v5 σ → G X σ [(0, .ref (ad (tE X) m 0 0)), (1, .ref (ad (tE X) m 5 i1)), (2, .int v2), (3, .int v3), (4, .int v4), (5, .int v5)] [] 21) {v2 : Int32} {v3 : Int32} {v4 : Int32} {v5 : Int32} {σ : Sg} (hw : wp_X2_workLane_b128 m i1 K21 Q v2 v3 v4 v5 σ) : G X σ [(0, .ref (ad (tE X) m 0 0)), (1, .ref (ad (tE X) m 5 i1)), (2, .int v2), (3, .int v3), (4, .int v4), (5, .int v5)] [] 128 := by
  unfold wp_X2_workLane_b128 at hw
  obtain ⟨z28, e_z28⟩ : ∃ z : Int32, z = v5 + (1 : Int32) := ⟨_, rfl⟩
  replace hw := hw z28 e_z28
  refine gx_iinc (v := z28) (lv' := [(5, .int z28), (0, .ref (ad (tE X) m 0 0)), (1, .ref (ad (tE X) m 5 i1)), (2, .int v2), (3, .int v3), (4, .int v4)]) C dX2_workLane_128 5 rfl (by rw [e_z28]; rfl) (by decide) rfl ?_
  refine gx_goto (tgt := 21) C dX2_workLane_131 (by decide) ?_
  refine gx_sub (lv' := [(0, .ref (ad (tE X) m 0 0)), (1, .ref (ad (tE X) m 5 i1)), (2, .int v2), (3, .int v3), (4, .int v4), (5, .int z28)]) [1, 2, 3, 4, 5, 0] rfl ?_
  exact hK21 _ _ _ _ _ hw
def st_X2_workLane_L21 (m : Nat) (i1 : Nat) (Q : Int32 → Sg → Prop) (K21 : Int32 → Int32 → Int32 → Int32 → Sg → Prop) (v2 : Int32) (v3 : Int32) (v4 : Int32) (v5 : Int32) (σ : Sg) : Prop := (((σ m 1 0 0) ≤ v5 → Q v4 σ) ∧ (¬ (σ m 1 0 0) ≤ v5 → wp_X1_nextFlavour m i1 σ (fun r7 σ8 => wp_X2_tinFor m r7 σ8 (fun r9 σ10 => wp_X2_reasonOf m i1 r9 σ10 (fun r11 σ12 => ∀ σ13 : Sg, σ13 = up σ12 m 5 i1 7 r11 → ((¬ (σ13 m 5 i1 7) = 0 → Q v4 σ13) ∧ ((σ13 m 5 i1 7) = 0 → wp_X5_isIndex r9 (16 : Int32) σ13 (fun r15 σ16 => ((¬ r15 = 0 → ∀ σ18 : Sg, σ18 = up σ16 m 0 0 6 ((σ16 m 0 0 6) + v2) → wp_X1_pullTears m i1 v2 v3 σ18 (fun r19 σ20 => ((r19 = 0 → (vp_in r9 16 ∧ ∀ a23 : Nat, a23 = r9.toNatClampNeg → wp_X4_add m a23 r7 σ20 (fun σ24 => wp_X1_wrapNext m i1 σ24 (fun σ25 => ∀ z26 : Int32, z26 = v4 + (1 : Int32) → wp_X2_workLane_b128 m i1 K21 Q v2 v3 z26 v5 σ25)))) ∧ (¬ r19 = 0 → ∀ σ27 : Sg, σ27 = up σ20 m 0 0 7 ((σ20 m 0 0 7) + v2) → wp_X2_workLane_b128 m i1 K21 Q v2 v3 v4 v5 σ27)))) ∧ (r15 = 0 → Q v4 σ16))))))))))
def wp_X2_workLane_L21 (m : Nat) (i1 : Nat) (Q : Int32 → Sg → Prop) (v2 : Int32) (v3 : Int32) (v4 : Int32) (v5 : Int32) (σ : Sg) : Prop := ∃ n : Nat, lpN (fun (K : Int32 × Int32 × Int32 × Int32 × Sg → Prop) (a : Int32 × Int32 × Int32 × Int32 × Sg) => st_X2_workLane_L21 m i1 Q (fun v2 v3 v4 v5 σ => K (v2, v3, v4, v5, σ)) (a.1) (a.2.1) (a.2.2.1) (a.2.2.2.1) (a.2.2.2.2)) n (v2, v3, v4, v5, σ)
set_option maxRecDepth 100000 in
set_option maxHeartbeats 4000000 in
theorem gs_X2_workLane_L21 {X : Tx} {Q : Int32 → Sg → Prop} (C : Cx X cX2_workLane "SweetWraps$Machine" (some .int) 3 62 8 (QI (tE X) Q)) {m : Nat} {i1 : Nat} (hm : m < 11) (hi1 : i1 < 4) {K21 : Int32 → Int32 → Int32 → Int32 → Sg → Prop} (hK21 : ∀ (v2 : Int32) (v3 : Int32) (v4 : Int32) (v5 : Int32) (σ : Sg), K21 v2 v3 v4 v5 σ → G X σ [(0, .ref (ad (tE X) m 0 0)), (1, .ref (ad (tE X) m 5 i1)), (2, .int v2), (3, .int v3), (4, .int v4), (5, .int v5)] [] 21) {v2 : Int32} {v3 : Int32} {v4 : Int32} {v5 : Int32} {σ : Sg} (hw : st_X2_workLane_L21 m i1 Q K21 v2 v3 v4 v5 σ) : G X σ [(0, .ref (ad (tE X) m 0 0)), (1, .ref (ad (tE X) m 5 i1)), (2, .int v2), (3, .int v3), (4, .int v4), (5, .int v5)] [] 21 := by
  unfold st_X2_workLane_L21 at hw
  refine gx_iload C dX2_workLane_21 5 rfl ?_
  refine gx_aload_n C dX2_workLane_23 0 rfl ?_
  refine gx_get C (ok0 hm) rfl rfl inX2 (ref := "SweetWraps$Machine") 0 (by decide) bw_93 rfl rfl dX2_workLane_24 ?_
  refine gx_iconst (v := (0 : Int32)) C dX2_workLane_27 (by decide) ?_
  refine gx_iald C (ok1 hm) rfl (n := 4) (x := (0 : Int32)) (by unfold vp_in; decide) 0 (by decide) dX2_workLane_28 ?_
  refine gx_icmp_ge (tgt := 134) C dX2_workLane_29 (by decide) (fun c6 => ?_) (fun c6 => ?_)
  · replace hw := hw.1 c6
    refine gx_iload C dX2_workLane_134 4 rfl ?_
    exact gx_iret C rfl rfl dX2_workLane_136 hw
  · replace hw := hw.2 c6
    refine gx_aload_n C dX2_workLane_32 1 rfl ?_
    refine gx_vcalli (As := []) (rest := []) C (c_X1_nextFlavour _ _ hm hi1 hw) (ok5 hm hi1) rfl rfl bw_340 bw_341 bw_342 bw_3 bw_343 hy_X1_nextFlavour ⟨by decide, by decide⟩ rfl (Nat.le_of_ble_eq_true rfl) dX2_workLane_33 (fun r7 σ8 hw => ?_)
    refine gx_istore (lv' := [(6, .int r7), (0, .ref (ad (tE X) m 0 0)), (1, .ref (ad (tE X) m 5 i1)), (2, .int v2), (3, .int v3), (4, .int v4), (5, .int v5)]) C dX2_workLane_36 (by decide) rfl ?_
    refine gx_aload_n C dX2_workLane_38 1 rfl ?_
    refine gx_iload C dX2_workLane_39 0 rfl ?_
    refine gx_vcalli (As := [.int r7]) (rest := []) C (c_X2_tinFor _ _ hm hw) (ok0 hm) rfl rfl bw_344 bw_346 bs_7 bw_2 bw_347 hy_X2_tinFor ⟨by decide, by decide⟩ rfl (Nat.le_of_ble_eq_true rfl) dX2_workLane_41 (fun r9 σ10 hw => ?_)
    refine gx_istore (lv' := [(7, .int r9), (6, .int r7), (0, .ref (ad (tE X) m 0 0)), (1, .ref (ad (tE X) m 5 i1)), (2, .int v2), (3, .int v3), (4, .int v4), (5, .int v5)]) C dX2_workLane_44 (by decide) rfl ?_
    refine gx_aload_n C dX2_workLane_46 3 rfl ?_
    refine gx_aload_n C dX2_workLane_47 2 rfl ?_
    refine gx_aload_n C dX2_workLane_48 3 rfl ?_
    refine gx_iload C dX2_workLane_49 0 rfl ?_
    refine gx_vcalli (As := [.ref (ad (tE X) m 5 i1), .int r9]) (rest := [.ref (ad (tE X) m 5 i1)]) C (c_X2_reasonOf _ _ hm hi1 hw) (ok0 hm) rfl rfl bw_352 bw_354 bs_8 bw_2 bw_355 hy_X2_reasonOf ⟨by decide, by decide⟩ rfl (Nat.le_of_ble_eq_true rfl) dX2_workLane_51 (fun r11 σ12 hw => ?_)
    refine gx_put C (ok5 hm hi1) rfl rfl inX1 tyX1 tyX1_ok nmX1 (ref := "SweetWraps$Lane") 7 (by decide) bw_51 rfl rfl (v := .int r11) rfl rfl (Nat.le_of_ble_eq_true rfl) (upd (σ12 m 5 i1) 7 r11) rfl dX2_workLane_54 ?_
    obtain ⟨σ13, e_σ13⟩ : ∃ z : Sg, z = up σ12 m 5 i1 7 r11 := ⟨_, rfl⟩
    replace hw := hw σ13 e_σ13
    refine gx_st e_σ13 ?_
    refine gx_aload_n C dX2_workLane_57 3 rfl ?_
    refine gx_get C (ok5 hm hi1) rfl rfl inX1 (ref := "SweetWraps$Lane") 7 (by decide) bw_51 rfl rfl dX2_workLane_58 ?_
    refine gx_if_ne (tgt := 74) C dX2_workLane_61 (by decide) (fun c14 => ?_) (fun c14 => ?_)
    · replace hw := hw.1 c14
      refine gx_iload C dX2_workLane_74 6 rfl ?_
      exact gx_iret C rfl rfl dX2_workLane_76 hw
    · replace hw := hw.2 c14
      refine gx_iload C dX2_workLane_64 0 rfl ?_
      refine gx_bipush (v := (16 : Int32)) C dX2_workLane_66 (by decide) ?_
      refine gx_ncalli (As := [.int r9, .int (16 : Int32)]) (rest := []) (host := "SweetWraps") C (c_X5_isIndex _ _ hw) (nest_in _ (by decide +kernel)) bw_226 bw_1 bw_227 hyS_X5_isIndex ⟨by decide, by decide⟩ rfl (Nat.le_of_ble_eq_true rfl) dX2_workLane_68 (fun r15 σ16 hw => ?_)
      refine gx_if_ne (tgt := 77) C dX2_workLane_71 (by decide) (fun c17 => ?_) (fun c17 => ?_)
      · replace hw := hw.1 c17
        refine gx_aload_n C dX2_workLane_77 2 rfl ?_
        refine gx_dup C dX2_workLane_78 rfl ?_
        refine gx_get C (ok0 hm) rfl rfl inX2 (ref := "SweetWraps$Machine") 6 (by decide) bw_102 rfl rfl dX2_workLane_79 ?_
        refine gx_iload_n C dX2_workLane_82 4 rfl ?_
        refine gx_iadd C dX2_workLane_83 ?_
        refine gx_put C (ok0 hm) rfl rfl inX2 tyX2 tyX2_ok nmX2 (ref := "SweetWraps$Machine") 6 (by decide) bw_102 rfl rfl (v := .int ((σ16 m 0 0 6) + v2)) rfl rfl (Nat.le_of_ble_eq_true rfl) (upd (σ16 m 0 0) 6 ((σ16 m 0 0 6) + v2)) rfl dX2_workLane_84 ?_
        obtain ⟨σ18, e_σ18⟩ : ∃ z : Sg, z = up σ16 m 0 0 6 ((σ16 m 0 0 6) + v2) := ⟨_, rfl⟩
        replace hw := hw σ18 e_σ18
        refine gx_st e_σ18 ?_
        refine gx_aload_n C dX2_workLane_87 3 rfl ?_
        refine gx_iload_n C dX2_workLane_88 4 rfl ?_
        refine gx_iload_n C dX2_workLane_89 5 rfl ?_
        refine gx_vcalli (As := [.int v2, .int v3]) (rest := []) C (c_X1_pullTears _ _ hm hi1 hw) (ok5 hm hi1) rfl rfl bw_356 bw_357 bw_358 bw_3 bw_359 hy_X1_pullTears ⟨by decide, by decide⟩ rfl (Nat.le_of_ble_eq_true rfl) dX2_workLane_90 (fun r19 σ20 hw => ?_)
        refine gx_if_eq (tgt := 109) C dX2_workLane_93 (by decide) (fun c21 => ?_) (fun c21 => ?_)
        · replace hw := hw.1 c21
          refine gx_aload_n C dX2_workLane_109 2 rfl ?_
          refine gx_get C (ok0 hm) rfl rfl inX2 (ref := "SweetWraps$Machine") 2 (by decide) bw_97 rfl rfl dX2_workLane_110 ?_
          refine gx_iload C dX2_workLane_113 0 rfl ?_
          have h22 := hw.1
          replace hw := hw.2
          obtain ⟨a23, e_a23⟩ : ∃ z : Nat, z = r9.toNatClampNeg := ⟨_, rfl⟩
          replace hw := hw a23 e_a23
          have ha23 : a23 < 16 := by rw [e_a23]; exact vp_lt h22
          refine gx_aald C (ok3 hm) rfl (t0 := 4) rfl h22 (v := .ref (ad (tE X) m 8 a23)) (by rw [e_a23]; rfl) dX2_workLane_115 ?_
          refine gx_iload C dX2_workLane_116 1 rfl ?_
          refine gx_vcallv (As := [.int r7]) (rest := []) C (c_X4_add _ _ hm ha23 hw) (ok8 hm ha23) rfl rfl bw_360 bw_361 bw_362 bw_4 bw_363 hy_X4_add ⟨by decide, by decide⟩ rfl (Nat.le_of_ble_eq_true rfl) dX2_workLane_118 (fun σ24 hw => ?_)
          refine gx_aload_n C dX2_workLane_121 3 rfl ?_
          refine gx_vcallv (As := []) (rest := []) C (c_X1_wrapNext _ _ hm hi1 hw) (ok5 hm hi1) rfl rfl bw_365 bw_366 bw_367 bw_3 bw_368 hy_X1_wrapNext ⟨by decide, by decide⟩ rfl (Nat.le_of_ble_eq_true rfl) dX2_workLane_122 (fun σ25 hw => ?_)
          obtain ⟨z26, e_z26⟩ : ∃ z : Int32, z = v4 + (1 : Int32) := ⟨_, rfl⟩
          replace hw := hw z26 e_z26
          refine gx_iinc (v := z26) (lv' := [(4, .int z26), (7, .int r9), (6, .int r7), (0, .ref (ad (tE X) m 0 0)), (1, .ref (ad (tE X) m 5 i1)), (2, .int v2), (3, .int v3), (5, .int v5)]) C dX2_workLane_125 6 rfl (by rw [e_z26]; rfl) (by decide) rfl ?_
          refine gx_sub (lv' := [(0, .ref (ad (tE X) m 0 0)), (1, .ref (ad (tE X) m 5 i1)), (2, .int v2), (3, .int v3), (4, .int z26), (5, .int v5)]) [3, 4, 5, 6, 0, 7] rfl ?_
          exact g_X2_workLane_b128 C hm hi1 hK21 hw
        · replace hw := hw.2 c21
          refine gx_aload_n C dX2_workLane_96 2 rfl ?_
          refine gx_dup C dX2_workLane_97 rfl ?_
          refine gx_get C (ok0 hm) rfl rfl inX2 (ref := "SweetWraps$Machine") 7 (by decide) bw_103 rfl rfl dX2_workLane_98 ?_
          refine gx_iload_n C dX2_workLane_101 4 rfl ?_
          refine gx_iadd C dX2_workLane_102 ?_
          refine gx_put C (ok0 hm) rfl rfl inX2 tyX2 tyX2_ok nmX2 (ref := "SweetWraps$Machine") 7 (by decide) bw_103 rfl rfl (v := .int ((σ20 m 0 0 7) + v2)) rfl rfl (Nat.le_of_ble_eq_true rfl) (upd (σ20 m 0 0) 7 ((σ20 m 0 0 7) + v2)) rfl dX2_workLane_103 ?_
          obtain ⟨σ27, e_σ27⟩ : ∃ z : Sg, z = up σ20 m 0 0 7 ((σ20 m 0 0 7) + v2) := ⟨_, rfl⟩
          replace hw := hw σ27 e_σ27
          refine gx_st e_σ27 ?_
          refine gx_goto (tgt := 128) C dX2_workLane_106 (by decide) ?_
          refine gx_sub (lv' := [(0, .ref (ad (tE X) m 0 0)), (1, .ref (ad (tE X) m 5 i1)), (2, .int v2), (3, .int v3), (4, .int v4), (5, .int v5)]) [2, 3, 4, 5, 6, 7] rfl ?_
          exact g_X2_workLane_b128 C hm hi1 hK21 hw
      · replace hw := hw.2 c17
        refine gx_iload C dX2_workLane_74 6 rfl ?_
        exact gx_iret C rfl rfl dX2_workLane_76 hw
set_option maxRecDepth 100000 in
set_option maxHeartbeats 4000000 in
theorem g_X2_workLane_L21 {X : Tx} {Q : Int32 → Sg → Prop} (C : Cx X cX2_workLane "SweetWraps$Machine" (some .int) 3 62 8 (QI (tE X) Q)) {m : Nat} {i1 : Nat} (hm : m < 11) (hi1 : i1 < 4) {v2 : Int32} {v3 : Int32} {v4 : Int32} {v5 : Int32} {σ : Sg} (hw : wp_X2_workLane_L21 m i1 Q v2 v3 v4 v5 σ) : G X σ [(0, .ref (ad (tE X) m 0 0)), (1, .ref (ad (tE X) m 5 i1)), (2, .int v2), (3, .int v3), (4, .int v4), (5, .int v5)] [] 21 := by
  obtain ⟨n, hw⟩ := hw
  exact lpN_G (P := (fun (a : Int32 × Int32 × Int32 × Int32 × Sg) => G X (a.2.2.2.2) [(0, .ref (ad (tE X) m 0 0)), (1, .ref (ad (tE X) m 5 i1)), (2, .int (a.1)), (3, .int (a.2.1)), (4, .int (a.2.2.1)), (5, .int (a.2.2.2.1))] [] 21)) (fun K a hK h => gs_X2_workLane_L21 C hm hi1 (fun v2 v3 v4 v5 σ h => hK (v2, v3, v4, v5, σ) h) h) n _ hw
def wp_X2_workLane (m : Nat) (i1 : Nat) (σ : Sg) (Q : Int32 → Sg → Prop) : Prop := wp_X2_foilOfPull m σ (fun r1 σ2 => wp_X2_pullsUntilTear m σ2 (fun r3 σ4 => ∀ σ5 : Sg, σ5 = up σ4 m 5 i1 7 (0 : Int32) → wp_X2_workLane_L21 m i1 Q r1 r3 (0 : Int32) (0 : Int32) σ5))
set_option maxRecDepth 100000 in
set_option maxHeartbeats 4000000 in
theorem c_X2_workLane (l : Launch) (E : Ev) {m : Nat} {i1 : Nat} (hm : m < 11) (hi1 : i1 < 4) {σ : Sg} {Q : Int32 → Sg → Prop} (hw : wp_X2_workLane m i1 σ Q) : CT l E yX2_workLane cX2_workLane 8 (some .int) 3 62 [.ref (ad E m 0 0), .ref (ad E m 5 i1)] σ (QI E Q) := by
  refine CT_of (by decide) (Nat.le_of_ble_eq_true rfl) (fun X h1 h2 C => ?_)
  subst h1; subst h2
  have C : Cx X cX2_workLane "SweetWraps$Machine" (some .int) 3 62 8 (QI (tE X) Q) := C
  show G X σ [(0, .ref (ad (tE X) m 0 0)), (1, .ref (ad (tE X) m 5 i1))] [] 0
  unfold wp_X2_workLane at hw
  refine gx_aload_n C dX2_workLane_0 0 rfl ?_
  refine gx_vcalli (As := []) (rest := []) C (c_X2_foilOfPull _ _ hm hw) (ok0 hm) rfl rfl bw_329 bw_331 bs_5 bw_2 bw_332 hy_X2_foilOfPull ⟨by decide, by decide⟩ rfl (Nat.le_of_ble_eq_true rfl) dX2_workLane_1 (fun r1 σ2 hw => ?_)
  refine gx_istore_n (lv' := [(2, .int r1), (0, .ref (ad (tE X) m 0 0)), (1, .ref (ad (tE X) m 5 i1))]) C dX2_workLane_4 (by decide) rfl ?_
  refine gx_aload_n C dX2_workLane_5 1 rfl ?_
  refine gx_vcalli (As := []) (rest := []) C (c_X2_pullsUntilTear _ _ hm hw) (ok0 hm) rfl rfl bw_333 bw_335 bs_6 bw_2 bw_336 hy_X2_pullsUntilTear ⟨by decide, by decide⟩ rfl (Nat.le_of_ble_eq_true rfl) dX2_workLane_6 (fun r3 σ4 hw => ?_)
  refine gx_istore_n (lv' := [(3, .int r3), (2, .int r1), (0, .ref (ad (tE X) m 0 0)), (1, .ref (ad (tE X) m 5 i1))]) C dX2_workLane_9 (by decide) rfl ?_
  refine gx_iconst (v := (0 : Int32)) C dX2_workLane_10 (by decide) ?_
  refine gx_istore (lv' := [(4, .int (0 : Int32)), (3, .int r3), (2, .int r1), (0, .ref (ad (tE X) m 0 0)), (1, .ref (ad (tE X) m 5 i1))]) C dX2_workLane_11 (by decide) rfl ?_
  refine gx_aload_n C dX2_workLane_13 4 rfl ?_
  refine gx_iconst (v := (0 : Int32)) C dX2_workLane_14 (by decide) ?_
  refine gx_put C (ok5 hm hi1) rfl rfl inX1 tyX1 tyX1_ok nmX1 (ref := "SweetWraps$Lane") 7 (by decide) bw_51 rfl rfl (v := .int (0 : Int32)) rfl rfl (Nat.le_of_ble_eq_true rfl) (upd (σ4 m 5 i1) 7 (0 : Int32)) rfl dX2_workLane_15 ?_
  obtain ⟨σ5, e_σ5⟩ : ∃ z : Sg, z = up σ4 m 5 i1 7 (0 : Int32) := ⟨_, rfl⟩
  replace hw := hw σ5 e_σ5
  refine gx_st e_σ5 ?_
  refine gx_iconst (v := (0 : Int32)) C dX2_workLane_18 (by decide) ?_
  refine gx_istore (lv' := [(5, .int (0 : Int32)), (4, .int (0 : Int32)), (3, .int r3), (2, .int r1), (0, .ref (ad (tE X) m 0 0)), (1, .ref (ad (tE X) m 5 i1))]) C dX2_workLane_19 (by decide) rfl ?_
  refine gx_sub (lv' := [(0, .ref (ad (tE X) m 0 0)), (1, .ref (ad (tE X) m 5 i1)), (2, .int r1), (3, .int r3), (4, .int (0 : Int32)), (5, .int (0 : Int32))]) [4, 5, 3, 2, 1, 0] rfl ?_
  exact g_X2_workLane_L21 C hm hi1 hw
theorem hy_X2_workLane : yX2_workLane.cls = "SweetWraps$Machine" ∧ yX2_workLane.cls ≠ "java/lang/invoke/MethodHandle" ∧ yX2_workLane.cls ≠ "java/lang/invoke/VarHandle" ∧ (parseMethodDescriptor yX2_workLane.desc).map (fun d => d.parameters.length) = some 1 := by decide +kernel

theorem dX2_work_0 : decode cX2_work 0 = .ok (.iconst 0, 1) := by decide +kernel
theorem dX2_work_1 : decode cX2_work 1 = .ok (.istore_n 2, 1) := by decide +kernel
theorem dX2_work_2 : decode cX2_work 2 = .ok (.iconst 0, 1) := by decide +kernel
theorem dX2_work_3 : decode cX2_work 3 = .ok (.istore_n 3, 1) := by decide +kernel
theorem dX2_work_4 : decode cX2_work 4 = .ok (.iload_n 3, 1) := by decide +kernel
theorem dX2_work_5 : decode cX2_work 5 = .ok (.iload_n 1, 1) := by decide +kernel
theorem dX2_work_6 : decode cX2_work 6 = .ok (.if_icmp .ge 48, 3) := by decide +kernel
theorem dX2_work_9 : decode cX2_work 9 = .ok (.iconst 0, 1) := by decide +kernel
theorem dX2_work_10 : decode cX2_work 10 = .ok (.istore 4, 2) := by decide +kernel
theorem dX2_work_12 : decode cX2_work 12 = .ok (.iload 4, 2) := by decide +kernel
theorem dX2_work_14 : decode cX2_work 14 = .ok (.iconst 4, 1) := by decide +kernel
theorem dX2_work_15 : decode cX2_work 15 = .ok (.if_icmp .ge 23, 3) := by decide +kernel
theorem dX2_work_18 : decode cX2_work 18 = .ok (.iload_n 2, 1) := by decide +kernel
theorem dX2_work_19 : decode cX2_work 19 = .ok (.aload_n 0, 1) := by decide +kernel
theorem dX2_work_20 : decode cX2_work 20 = .ok (.aload_n 0, 1) := by decide +kernel
theorem dX2_work_21 : decode cX2_work 21 = .ok (.getfield 17, 3) := by decide +kernel
theorem dX2_work_24 : decode cX2_work 24 = .ok (.iload 4, 2) := by decide +kernel
theorem dX2_work_26 : decode cX2_work 26 = .ok (.aaload, 1) := by decide +kernel
theorem dX2_work_27 : decode cX2_work 27 = .ok (.invokevirtual 99, 3) := by decide +kernel
theorem dX2_work_30 : decode cX2_work 30 = .ok (.iadd, 1) := by decide +kernel
theorem dX2_work_31 : decode cX2_work 31 = .ok (.istore_n 2, 1) := by decide +kernel
theorem dX2_work_32 : decode cX2_work 32 = .ok (.iinc 4 1, 3) := by decide +kernel
theorem dX2_work_35 : decode cX2_work 35 = .ok (.goto (-23), 3) := by decide +kernel
theorem dX2_work_38 : decode cX2_work 38 = .ok (.aload_n 0, 1) := by decide +kernel
theorem dX2_work_39 : decode cX2_work 39 = .ok (.dup, 1) := by decide +kernel
theorem dX2_work_40 : decode cX2_work 40 = .ok (.getfield 47, 3) := by decide +kernel
theorem dX2_work_43 : decode cX2_work 43 = .ok (.iconst 1, 1) := by decide +kernel
theorem dX2_work_44 : decode cX2_work 44 = .ok (.iadd, 1) := by decide +kernel
theorem dX2_work_45 : decode cX2_work 45 = .ok (.putfield 47, 3) := by decide +kernel
theorem dX2_work_48 : decode cX2_work 48 = .ok (.iinc 3 1, 3) := by decide +kernel
theorem dX2_work_51 : decode cX2_work 51 = .ok (.goto (-47), 3) := by decide +kernel
theorem dX2_work_54 : decode cX2_work 54 = .ok (.iload_n 2, 1) := by decide +kernel
theorem dX2_work_55 : decode cX2_work 55 = .ok (.ireturn, 1) := by decide +kernel
def st_X2_work_L12 (m : Nat) (x1 : Int32) (K4 : Int32 → Int32 → Sg → Prop) (Q : Int32 → Sg → Prop) (K12 : Int32 → Int32 → Int32 → Sg → Prop) (v2 : Int32) (v3 : Int32) (v4 : Int32) (σ : Sg) : Prop := (((4 : Int32) ≤ v4 → ∀ σ3 : Sg, σ3 = up σ m 0 0 5 ((σ m 0 0 5) + (1 : Int32)) → ∀ z4 : Int32, z4 = v3 + (1 : Int32) → K4 v2 z4 σ3) ∧ (¬ (4 : Int32) ≤ v4 → (vp_in v4 4 ∧ ∀ a6 : Nat, a6 = v4.toNatClampNeg → wp_X2_workLane m a6 σ (fun r7 σ8 => ∀ z9 : Int32, z9 = (v2 + r7) → ∀ z10 : Int32, z10 = v4 + (1 : Int32) → K12 z9 v3 z10 σ8))))
def wp_X2_work_L12 (m : Nat) (x1 : Int32) (K4 : Int32 → Int32 → Sg → Prop) (Q : Int32 → Sg → Prop) (v2 : Int32) (v3 : Int32) (v4 : Int32) (σ : Sg) : Prop := ∃ n : Nat, lpN (fun (K : Int32 × Int32 × Int32 × Sg → Prop) (a : Int32 × Int32 × Int32 × Sg) => st_X2_work_L12 m x1 K4 Q (fun v2 v3 v4 σ => K (v2, v3, v4, σ)) (a.1) (a.2.1) (a.2.2.1) (a.2.2.2)) n (v2, v3, v4, σ)
set_option maxRecDepth 100000 in
set_option maxHeartbeats 4000000 in
theorem gs_X2_work_L12 {X : Tx} {Q : Int32 → Sg → Prop} (C : Cx X cX2_work "SweetWraps$Machine" (some .int) 4 89 5 (QI (tE X) Q)) {m : Nat} {x1 : Int32} (hm : m < 11) {K4 : Int32 → Int32 → Sg → Prop} (hK4 : ∀ (v2 : Int32) (v3 : Int32) (σ : Sg), K4 v2 v3 σ → G X σ [(0, .ref (ad (tE X) m 0 0)), (1, .int x1), (2, .int v2), (3, .int v3)] [] 4) {K12 : Int32 → Int32 → Int32 → Sg → Prop} (hK12 : ∀ (v2 : Int32) (v3 : Int32) (v4 : Int32) (σ : Sg), K12 v2 v3 v4 σ → G X σ [(0, .ref (ad (tE X) m 0 0)), (1, .int x1), (2, .int v2), (3, .int v3), (4, .int v4)] [] 12) {v2 : Int32} {v3 : Int32} {v4 : Int32} {σ : Sg} (hw : st_X2_work_L12 m x1 K4 Q K12 v2 v3 v4 σ) : G X σ [(0, .ref (ad (tE X) m 0 0)), (1, .int x1), (2, .int v2), (3, .int v3), (4, .int v4)] [] 12 := by
  unfold st_X2_work_L12 at hw
  refine gx_iload C dX2_work_12 4 rfl ?_
  refine gx_iconst (v := (4 : Int32)) C dX2_work_14 (by decide) ?_
  refine gx_icmp_ge (tgt := 38) C dX2_work_15 (by decide) (fun c2 => ?_) (fun c2 => ?_)
  · replace hw := hw.1 c2
    refine gx_aload_n C dX2_work_38 0 rfl ?_
    refine gx_dup C dX2_work_39 rfl ?_
    refine gx_get C (ok0 hm) rfl rfl inX2 (ref := "SweetWraps$Machine") 5 (by decide) bw_101 rfl rfl dX2_work_40 ?_
    refine gx_iconst (v := (1 : Int32)) C dX2_work_43 (by decide) ?_
    refine gx_iadd C dX2_work_44 ?_
    refine gx_put C (ok0 hm) rfl rfl inX2 tyX2 tyX2_ok nmX2 (ref := "SweetWraps$Machine") 5 (by decide) bw_101 rfl rfl (v := .int ((σ m 0 0 5) + (1 : Int32))) rfl rfl (Nat.le_of_ble_eq_true rfl) (upd (σ m 0 0) 5 ((σ m 0 0 5) + (1 : Int32))) rfl dX2_work_45 ?_
    obtain ⟨σ3, e_σ3⟩ : ∃ z : Sg, z = up σ m 0 0 5 ((σ m 0 0 5) + (1 : Int32)) := ⟨_, rfl⟩
    replace hw := hw σ3 e_σ3
    refine gx_st e_σ3 ?_
    obtain ⟨z4, e_z4⟩ : ∃ z : Int32, z = v3 + (1 : Int32) := ⟨_, rfl⟩
    replace hw := hw z4 e_z4
    refine gx_iinc (v := z4) (lv' := [(3, .int z4), (0, .ref (ad (tE X) m 0 0)), (1, .int x1), (2, .int v2), (4, .int v4)]) C dX2_work_48 3 rfl (by rw [e_z4]; rfl) (by decide) rfl ?_
    refine gx_goto (tgt := 4) C dX2_work_51 (by decide) ?_
    refine gx_sub (lv' := [(0, .ref (ad (tE X) m 0 0)), (1, .int x1), (2, .int v2), (3, .int z4)]) [1, 2, 3, 0] rfl ?_
    exact hK4 _ _ _ hw
  · replace hw := hw.2 c2
    refine gx_iload_n C dX2_work_18 2 rfl ?_
    refine gx_aload_n C dX2_work_19 0 rfl ?_
    refine gx_aload_n C dX2_work_20 0 rfl ?_
    refine gx_get C (ok0 hm) rfl rfl inX2 (ref := "SweetWraps$Machine") 1 (by decide) bw_95 rfl rfl dX2_work_21 ?_
    refine gx_iload C dX2_work_24 4 rfl ?_
    have h5 := hw.1
    replace hw := hw.2
    obtain ⟨a6, e_a6⟩ : ∃ z : Nat, z = v4.toNatClampNeg := ⟨_, rfl⟩
    replace hw := hw a6 e_a6
    have ha6 : a6 < 4 := by rw [e_a6]; exact vp_lt h5
    refine gx_aald C (ok2 hm) rfl (t0 := 3) rfl h5 (v := .ref (ad (tE X) m 5 a6)) (by rw [e_a6]; rfl) dX2_work_26 ?_
    refine gx_vcalli (As := [.ref (ad (tE X) m 5 a6)]) (rest := [.int v2]) C (c_X2_workLane _ _ hm ha6 hw) (ok0 hm) rfl rfl bw_325 bw_327 bs_4 bw_2 bw_328 hy_X2_workLane ⟨by decide, by decide⟩ rfl (Nat.le_of_ble_eq_true rfl) dX2_work_27 (fun r7 σ8 hw => ?_)
    refine gx_iadd C dX2_work_30 ?_
    obtain ⟨z9, e_z9⟩ : ∃ z : Int32, z = (v2 + r7) := ⟨_, rfl⟩
    replace hw := hw z9 e_z9
    refine gx_top e_z9 ?_
    refine gx_istore_n (lv' := [(2, .int z9), (0, .ref (ad (tE X) m 0 0)), (1, .int x1), (3, .int v3), (4, .int v4)]) C dX2_work_31 (by decide) rfl ?_
    obtain ⟨z10, e_z10⟩ : ∃ z : Int32, z = v4 + (1 : Int32) := ⟨_, rfl⟩
    replace hw := hw z10 e_z10
    refine gx_iinc (v := z10) (lv' := [(4, .int z10), (2, .int z9), (0, .ref (ad (tE X) m 0 0)), (1, .int x1), (3, .int v3)]) C dX2_work_32 4 rfl (by rw [e_z10]; rfl) (by decide) rfl ?_
    refine gx_goto (tgt := 12) C dX2_work_35 (by decide) ?_
    refine gx_sub (lv' := [(0, .ref (ad (tE X) m 0 0)), (1, .int x1), (2, .int z9), (3, .int v3), (4, .int z10)]) [2, 3, 1, 4, 0] rfl ?_
    exact hK12 _ _ _ _ hw
set_option maxRecDepth 100000 in
set_option maxHeartbeats 4000000 in
theorem g_X2_work_L12 {X : Tx} {Q : Int32 → Sg → Prop} (C : Cx X cX2_work "SweetWraps$Machine" (some .int) 4 89 5 (QI (tE X) Q)) {m : Nat} {x1 : Int32} (hm : m < 11) {K4 : Int32 → Int32 → Sg → Prop} (hK4 : ∀ (v2 : Int32) (v3 : Int32) (σ : Sg), K4 v2 v3 σ → G X σ [(0, .ref (ad (tE X) m 0 0)), (1, .int x1), (2, .int v2), (3, .int v3)] [] 4) {v2 : Int32} {v3 : Int32} {v4 : Int32} {σ : Sg} (hw : wp_X2_work_L12 m x1 K4 Q v2 v3 v4 σ) : G X σ [(0, .ref (ad (tE X) m 0 0)), (1, .int x1), (2, .int v2), (3, .int v3), (4, .int v4)] [] 12 := by
  obtain ⟨n, hw⟩ := hw
  exact lpN_G (P := (fun (a : Int32 × Int32 × Int32 × Sg) => G X (a.2.2.2) [(0, .ref (ad (tE X) m 0 0)), (1, .int x1), (2, .int (a.1)), (3, .int (a.2.1)), (4, .int (a.2.2.1))] [] 12)) (fun K a hK h => gs_X2_work_L12 C hm hK4 (fun v2 v3 v4 σ h => hK (v2, v3, v4, σ) h) h) n _ hw
def st_X2_work_L4 (m : Nat) (x1 : Int32) (Q : Int32 → Sg → Prop) (K4 : Int32 → Int32 → Sg → Prop) (v2 : Int32) (v3 : Int32) (σ : Sg) : Prop := ((x1 ≤ v3 → Q v2 σ) ∧ (¬ x1 ≤ v3 → wp_X2_work_L12 m x1 K4 Q v2 v3 (0 : Int32) σ))
def wp_X2_work_L4 (m : Nat) (x1 : Int32) (Q : Int32 → Sg → Prop) (v2 : Int32) (v3 : Int32) (σ : Sg) : Prop := ∃ n : Nat, lpN (fun (K : Int32 × Int32 × Sg → Prop) (a : Int32 × Int32 × Sg) => st_X2_work_L4 m x1 Q (fun v2 v3 σ => K (v2, v3, σ)) (a.1) (a.2.1) (a.2.2)) n (v2, v3, σ)
set_option maxRecDepth 100000 in
set_option maxHeartbeats 4000000 in
theorem gs_X2_work_L4 {X : Tx} {Q : Int32 → Sg → Prop} (C : Cx X cX2_work "SweetWraps$Machine" (some .int) 4 89 5 (QI (tE X) Q)) {m : Nat} {x1 : Int32} (hm : m < 11) {K4 : Int32 → Int32 → Sg → Prop} (hK4 : ∀ (v2 : Int32) (v3 : Int32) (σ : Sg), K4 v2 v3 σ → G X σ [(0, .ref (ad (tE X) m 0 0)), (1, .int x1), (2, .int v2), (3, .int v3)] [] 4) {v2 : Int32} {v3 : Int32} {σ : Sg} (hw : st_X2_work_L4 m x1 Q K4 v2 v3 σ) : G X σ [(0, .ref (ad (tE X) m 0 0)), (1, .int x1), (2, .int v2), (3, .int v3)] [] 4 := by
  unfold st_X2_work_L4 at hw
  refine gx_iload_n C dX2_work_4 3 rfl ?_
  refine gx_iload_n C dX2_work_5 1 rfl ?_
  refine gx_icmp_ge (tgt := 54) C dX2_work_6 (by decide) (fun c1 => ?_) (fun c1 => ?_)
  · replace hw := hw.1 c1
    refine gx_iload_n C dX2_work_54 2 rfl ?_
    exact gx_iret C rfl rfl dX2_work_55 hw
  · replace hw := hw.2 c1
    refine gx_iconst (v := (0 : Int32)) C dX2_work_9 (by decide) ?_
    refine gx_istore (lv' := [(4, .int (0 : Int32)), (0, .ref (ad (tE X) m 0 0)), (1, .int x1), (2, .int v2), (3, .int v3)]) C dX2_work_10 (by decide) rfl ?_
    refine gx_sub (lv' := [(0, .ref (ad (tE X) m 0 0)), (1, .int x1), (2, .int v2), (3, .int v3), (4, .int (0 : Int32))]) [1, 2, 3, 4, 0] rfl ?_
    exact g_X2_work_L12 C hm hK4 hw
set_option maxRecDepth 100000 in
set_option maxHeartbeats 4000000 in
theorem g_X2_work_L4 {X : Tx} {Q : Int32 → Sg → Prop} (C : Cx X cX2_work "SweetWraps$Machine" (some .int) 4 89 5 (QI (tE X) Q)) {m : Nat} {x1 : Int32} (hm : m < 11) {v2 : Int32} {v3 : Int32} {σ : Sg} (hw : wp_X2_work_L4 m x1 Q v2 v3 σ) : G X σ [(0, .ref (ad (tE X) m 0 0)), (1, .int x1), (2, .int v2), (3, .int v3)] [] 4 := by
  obtain ⟨n, hw⟩ := hw
  exact lpN_G (P := (fun (a : Int32 × Int32 × Sg) => G X (a.2.2) [(0, .ref (ad (tE X) m 0 0)), (1, .int x1), (2, .int (a.1)), (3, .int (a.2.1))] [] 4)) (fun K a hK h => gs_X2_work_L4 C hm (fun v2 v3 σ h => hK (v2, v3, σ) h) h) n _ hw
def wp_X2_work (m : Nat) (x1 : Int32) (σ : Sg) (Q : Int32 → Sg → Prop) : Prop := wp_X2_work_L4 m x1 Q (0 : Int32) (0 : Int32) σ
set_option maxRecDepth 100000 in
set_option maxHeartbeats 4000000 in
theorem c_X2_work (l : Launch) (E : Ev) {m : Nat} {x1 : Int32} (hm : m < 11) {σ : Sg} {Q : Int32 → Sg → Prop} (hw : wp_X2_work m x1 σ Q) : CT l E yX2_work cX2_work 5 (some .int) 4 89 [.ref (ad E m 0 0), .int x1] σ (QI E Q) := by
  refine CT_of (by decide) (Nat.le_of_ble_eq_true rfl) (fun X h1 h2 C => ?_)
  subst h1; subst h2
  have C : Cx X cX2_work "SweetWraps$Machine" (some .int) 4 89 5 (QI (tE X) Q) := C
  show G X σ [(0, .ref (ad (tE X) m 0 0)), (1, .int x1)] [] 0
  unfold wp_X2_work at hw
  refine gx_iconst (v := (0 : Int32)) C dX2_work_0 (by decide) ?_
  refine gx_istore_n (lv' := [(2, .int (0 : Int32)), (0, .ref (ad (tE X) m 0 0)), (1, .int x1)]) C dX2_work_1 (by decide) rfl ?_
  refine gx_iconst (v := (0 : Int32)) C dX2_work_2 (by decide) ?_
  refine gx_istore_n (lv' := [(3, .int (0 : Int32)), (2, .int (0 : Int32)), (0, .ref (ad (tE X) m 0 0)), (1, .int x1)]) C dX2_work_3 (by decide) rfl ?_
  refine gx_sub (lv' := [(0, .ref (ad (tE X) m 0 0)), (1, .int x1), (2, .int (0 : Int32)), (3, .int (0 : Int32))]) [2, 3, 1, 0] rfl ?_
  exact g_X2_work_L4 C hm hw
theorem hy_X2_work : yX2_work.cls = "SweetWraps$Machine" ∧ yX2_work.cls ≠ "java/lang/invoke/MethodHandle" ∧ yX2_work.cls ≠ "java/lang/invoke/VarHandle" ∧ (parseMethodDescriptor yX2_work.desc).map (fun d => d.parameters.length) = some 1 := by decide +kernel

theorem dX2_runTicks_0 : decode cX2_runTicks 0 = .ok (.iload_n 1, 1) := by decide +kernel
theorem dX2_runTicks_1 : decode cX2_runTicks 1 = .ok (.iconst 1, 1) := by decide +kernel
theorem dX2_runTicks_2 : decode cX2_runTicks 2 = .ok (.bipush 99, 2) := by decide +kernel
theorem dX2_runTicks_4 : decode cX2_runTicks 4 = .ok (.invokestatic 66, 3) := by decide +kernel
theorem dX2_runTicks_7 : decode cX2_runTicks 7 = .ok (.ifCond .ne 6, 3) := by decide +kernel
theorem dX2_runTicks_10 : decode cX2_runTicks 10 = .ok (.bipush (-2), 2) := by decide +kernel
theorem dX2_runTicks_12 : decode cX2_runTicks 12 = .ok (.ireturn, 1) := by decide +kernel
theorem dX2_runTicks_13 : decode cX2_runTicks 13 = .ok (.aload_n 0, 1) := by decide +kernel
theorem dX2_runTicks_14 : decode cX2_runTicks 14 = .ok (.getfield 47, 3) := by decide +kernel
theorem dX2_runTicks_17 : decode cX2_runTicks 17 = .ok (.iload_n 1, 1) := by decide +kernel
theorem dX2_runTicks_18 : decode cX2_runTicks 18 = .ok (.iadd, 1) := by decide +kernel
theorem dX2_runTicks_19 : decode cX2_runTicks 19 = .ok (.sipush 9999, 3) := by decide +kernel
theorem dX2_runTicks_22 : decode cX2_runTicks 22 = .ok (.if_icmp .le 6, 3) := by decide +kernel
theorem dX2_runTicks_25 : decode cX2_runTicks 25 = .ok (.bipush (-5), 2) := by decide +kernel
theorem dX2_runTicks_27 : decode cX2_runTicks 27 = .ok (.ireturn, 1) := by decide +kernel
theorem dX2_runTicks_28 : decode cX2_runTicks 28 = .ok (.aload_n 0, 1) := by decide +kernel
theorem dX2_runTicks_29 : decode cX2_runTicks 29 = .ok (.iload_n 1, 1) := by decide +kernel
theorem dX2_runTicks_30 : decode cX2_runTicks 30 = .ok (.invokevirtual 95, 3) := by decide +kernel
theorem dX2_runTicks_33 : decode cX2_runTicks 33 = .ok (.ireturn, 1) := by decide +kernel
def wp_X2_runTicks (m : Nat) (x1 : Int32) (σ : Sg) (Q : Int32 → Sg → Prop) : Prop := wp_X5_isBetween x1 (1 : Int32) (99 : Int32) σ (fun r1 σ2 => ((¬ r1 = 0 → ((((σ2 m 0 0 5) + x1) ≤ (9999 : Int32) → wp_X2_work m x1 σ2 (fun r5 σ6 => Q r5 σ6)) ∧ (¬ ((σ2 m 0 0 5) + x1) ≤ (9999 : Int32) → Q (-5 : Int32) σ2))) ∧ (r1 = 0 → Q (-2 : Int32) σ2)))
set_option maxRecDepth 100000 in
set_option maxHeartbeats 4000000 in
theorem c_X2_runTicks (l : Launch) (E : Ev) {m : Nat} {x1 : Int32} (hm : m < 11) {σ : Sg} {Q : Int32 → Sg → Prop} (hw : wp_X2_runTicks m x1 σ Q) : CT l E yX2_runTicks cX2_runTicks 2 (some .int) 5 113 [.ref (ad E m 0 0), .int x1] σ (QI E Q) := by
  refine CT_of (by decide) (Nat.le_of_ble_eq_true rfl) (fun X h1 h2 C => ?_)
  subst h1; subst h2
  have C : Cx X cX2_runTicks "SweetWraps$Machine" (some .int) 5 113 2 (QI (tE X) Q) := C
  show G X σ [(0, .ref (ad (tE X) m 0 0)), (1, .int x1)] [] 0
  unfold wp_X2_runTicks at hw
  refine gx_iload_n C dX2_runTicks_0 1 rfl ?_
  refine gx_iconst (v := (1 : Int32)) C dX2_runTicks_1 (by decide) ?_
  refine gx_bipush (v := (99 : Int32)) C dX2_runTicks_2 (by decide) ?_
  refine gx_ncalli (As := [.int x1, .int (1 : Int32), .int (99 : Int32)]) (rest := []) (host := "SweetWraps") C (c_X5_isBetween _ _ hw) (nest_in _ (by decide +kernel)) bw_233 bw_1 bw_234 hyS_X5_isBetween ⟨by decide, by decide⟩ rfl (Nat.le_of_ble_eq_true rfl) dX2_runTicks_4 (fun r1 σ2 hw => ?_)
  refine gx_if_ne (tgt := 13) C dX2_runTicks_7 (by decide) (fun c3 => ?_) (fun c3 => ?_)
  · replace hw := hw.1 c3
    refine gx_aload_n C dX2_runTicks_13 0 rfl ?_
    refine gx_get C (ok0 hm) rfl rfl inX2 (ref := "SweetWraps$Machine") 5 (by decide) bw_101 rfl rfl dX2_runTicks_14 ?_
    refine gx_iload_n C dX2_runTicks_17 1 rfl ?_
    refine gx_iadd C dX2_runTicks_18 ?_
    refine gx_sipush (v := (9999 : Int32)) C dX2_runTicks_19 (by decide) ?_
    refine gx_icmp_le (tgt := 28) C dX2_runTicks_22 (by decide) (fun c4 => ?_) (fun c4 => ?_)
    · replace hw := hw.1 c4
      refine gx_aload_n C dX2_runTicks_28 0 rfl ?_
      refine gx_iload_n C dX2_runTicks_29 1 rfl ?_
      refine gx_vcalli (As := [.int x1]) (rest := []) C (c_X2_work _ _ hm hw) (ok0 hm) rfl rfl bw_321 bw_322 bw_323 bw_2 bw_324 hy_X2_work ⟨by decide, by decide⟩ rfl (Nat.le_of_ble_eq_true rfl) dX2_runTicks_30 (fun r5 σ6 hw => ?_)
      exact gx_iret C rfl rfl dX2_runTicks_33 hw
    · replace hw := hw.2 c4
      refine gx_bipush (v := (-5 : Int32)) C dX2_runTicks_25 (by decide) ?_
      exact gx_iret C rfl rfl dX2_runTicks_27 hw
  · replace hw := hw.2 c3
    refine gx_bipush (v := (-2 : Int32)) C dX2_runTicks_10 (by decide) ?_
    exact gx_iret C rfl rfl dX2_runTicks_12 hw
theorem hy_X2_runTicks : yX2_runTicks.cls = "SweetWraps$Machine" ∧ yX2_runTicks.cls ≠ "java/lang/invoke/MethodHandle" ∧ yX2_runTicks.cls ≠ "java/lang/invoke/VarHandle" ∧ (parseMethodDescriptor yX2_runTicks.desc).map (fun d => d.parameters.length) = some 1 := by decide +kernel

theorem dX2_reasonNow_0 : decode cX2_reasonNow 0 = .ok (.aload_n 0, 1) := by decide +kernel
theorem dX2_reasonNow_1 : decode cX2_reasonNow 1 = .ok (.aload_n 1, 1) := by decide +kernel
theorem dX2_reasonNow_2 : decode cX2_reasonNow 2 = .ok (.aload_n 0, 1) := by decide +kernel
theorem dX2_reasonNow_3 : decode cX2_reasonNow 3 = .ok (.aload_n 1, 1) := by decide +kernel
theorem dX2_reasonNow_4 : decode cX2_reasonNow 4 = .ok (.invokevirtual 113, 3) := by decide +kernel
theorem dX2_reasonNow_7 : decode cX2_reasonNow 7 = .ok (.invokevirtual 116, 3) := by decide +kernel
theorem dX2_reasonNow_10 : decode cX2_reasonNow 10 = .ok (.invokevirtual 119, 3) := by decide +kernel
theorem dX2_reasonNow_13 : decode cX2_reasonNow 13 = .ok (.ireturn, 1) := by decide +kernel
def wp_X2_reasonNow (m : Nat) (i1 : Nat) (σ : Sg) (Q : Int32 → Sg → Prop) : Prop := wp_X1_nextFlavour m i1 σ (fun r1 σ2 => wp_X2_tinFor m r1 σ2 (fun r3 σ4 => wp_X2_reasonOf m i1 r3 σ4 (fun r5 σ6 => Q r5 σ6)))
set_option maxRecDepth 100000 in
set_option maxHeartbeats 4000000 in
theorem c_X2_reasonNow (l : Launch) (E : Ev) {m : Nat} {i1 : Nat} (hm : m < 11) (hi1 : i1 < 4) {σ : Sg} {Q : Int32 → Sg → Prop} (hw : wp_X2_reasonNow m i1 σ Q) : CT l E yX2_reasonNow cX2_reasonNow 2 (some .int) 3 62 [.ref (ad E m 0 0), .ref (ad E m 5 i1)] σ (QI E Q) := by
  refine CT_of (by decide) (Nat.le_of_ble_eq_true rfl) (fun X h1 h2 C => ?_)
  subst h1; subst h2
  have C : Cx X cX2_reasonNow "SweetWraps$Machine" (some .int) 3 62 2 (QI (tE X) Q) := C
  show G X σ [(0, .ref (ad (tE X) m 0 0)), (1, .ref (ad (tE X) m 5 i1))] [] 0
  unfold wp_X2_reasonNow at hw
  refine gx_aload_n C dX2_reasonNow_0 0 rfl ?_
  refine gx_aload_n C dX2_reasonNow_1 1 rfl ?_
  refine gx_aload_n C dX2_reasonNow_2 0 rfl ?_
  refine gx_aload_n C dX2_reasonNow_3 1 rfl ?_
  refine gx_vcalli (As := []) (rest := [.ref (ad (tE X) m 0 0), .ref (ad (tE X) m 5 i1), .ref (ad (tE X) m 0 0)]) C (c_X1_nextFlavour _ _ hm hi1 hw) (ok5 hm hi1) rfl rfl bw_340 bw_341 bw_342 bw_3 bw_343 hy_X1_nextFlavour ⟨by decide, by decide⟩ rfl (Nat.le_of_ble_eq_true rfl) dX2_reasonNow_4 (fun r1 σ2 hw => ?_)
  refine gx_vcalli (As := [.int r1]) (rest := [.ref (ad (tE X) m 5 i1), .ref (ad (tE X) m 0 0)]) C (c_X2_tinFor _ _ hm hw) (ok0 hm) rfl rfl bw_344 bw_346 bs_7 bw_2 bw_347 hy_X2_tinFor ⟨by decide, by decide⟩ rfl (Nat.le_of_ble_eq_true rfl) dX2_reasonNow_7 (fun r3 σ4 hw => ?_)
  refine gx_vcalli (As := [.ref (ad (tE X) m 5 i1), .int r3]) (rest := []) C (c_X2_reasonOf _ _ hm hi1 hw) (ok0 hm) rfl rfl bw_352 bw_354 bs_8 bw_2 bw_355 hy_X2_reasonOf ⟨by decide, by decide⟩ rfl (Nat.le_of_ble_eq_true rfl) dX2_reasonNow_10 (fun r5 σ6 hw => ?_)
  exact gx_iret C rfl rfl dX2_reasonNow_13 hw
theorem hy_X2_reasonNow : yX2_reasonNow.cls = "SweetWraps$Machine" ∧ yX2_reasonNow.cls ≠ "java/lang/invoke/MethodHandle" ∧ yX2_reasonNow.cls ≠ "java/lang/invoke/VarHandle" ∧ (parseMethodDescriptor yX2_reasonNow.desc).map (fun d => d.parameters.length) = some 1 := by decide +kernel

theorem dX2_laneFact_0 : decode cX2_laneFact 0 = .ok (.iload_n 1, 1) := by decide +kernel
theorem dX2_laneFact_1 : decode cX2_laneFact 1 = .ok (.iconst 4, 1) := by decide +kernel
theorem dX2_laneFact_2 : decode cX2_laneFact 2 = .ok (.invokestatic 56, 3) := by decide +kernel
theorem dX2_laneFact_5 : decode cX2_laneFact 5 = .ok (.ifCond .ne 5, 3) := by decide +kernel
theorem dX2_laneFact_8 : decode cX2_laneFact 8 = .ok (.iconst (-1), 1) := by decide +kernel
theorem dX2_laneFact_9 : decode cX2_laneFact 9 = .ok (.ireturn, 1) := by decide +kernel
theorem dX2_laneFact_10 : decode cX2_laneFact 10 = .ok (.aload_n 0, 1) := by decide +kernel
theorem dX2_laneFact_11 : decode cX2_laneFact 11 = .ok (.getfield 17, 3) := by decide +kernel
theorem dX2_laneFact_14 : decode cX2_laneFact 14 = .ok (.iload_n 1, 1) := by decide +kernel
theorem dX2_laneFact_15 : decode cX2_laneFact 15 = .ok (.aaload, 1) := by decide +kernel
theorem dX2_laneFact_16 : decode cX2_laneFact 16 = .ok (.astore_n 3, 1) := by decide +kernel
theorem dX2_laneFact_17 : decode cX2_laneFact 17 = .ok (.iload_n 2, 1) := by decide +kernel
theorem dX2_laneFact_18 : decode cX2_laneFact 18 = .ok (.tableswitch 87 0 7 #[46, 51, 56, 61, 66, 71, 76, 81], 46) := by decide +kernel
theorem dX2_laneFact_64 : decode cX2_laneFact 64 = .ok (.aload_n 3, 1) := by decide +kernel
theorem dX2_laneFact_65 : decode cX2_laneFact 65 = .ok (.invokevirtual 144, 3) := by decide +kernel
theorem dX2_laneFact_68 : decode cX2_laneFact 68 = .ok (.ireturn, 1) := by decide +kernel
theorem dX2_laneFact_69 : decode cX2_laneFact 69 = .ok (.aload_n 3, 1) := by decide +kernel
theorem dX2_laneFact_70 : decode cX2_laneFact 70 = .ok (.getfield 138, 3) := by decide +kernel
theorem dX2_laneFact_73 : decode cX2_laneFact 73 = .ok (.ireturn, 1) := by decide +kernel
theorem dX2_laneFact_74 : decode cX2_laneFact 74 = .ok (.aload_n 3, 1) := by decide +kernel
theorem dX2_laneFact_75 : decode cX2_laneFact 75 = .ok (.invokevirtual 113, 3) := by decide +kernel
theorem dX2_laneFact_78 : decode cX2_laneFact 78 = .ok (.ireturn, 1) := by decide +kernel
theorem dX2_laneFact_79 : decode cX2_laneFact 79 = .ok (.aload_n 3, 1) := by decide +kernel
theorem dX2_laneFact_80 : decode cX2_laneFact 80 = .ok (.getfield 74, 3) := by decide +kernel
theorem dX2_laneFact_83 : decode cX2_laneFact 83 = .ok (.ireturn, 1) := by decide +kernel
theorem dX2_laneFact_84 : decode cX2_laneFact 84 = .ok (.aload_n 3, 1) := by decide +kernel
theorem dX2_laneFact_85 : decode cX2_laneFact 85 = .ok (.getfield 147, 3) := by decide +kernel
theorem dX2_laneFact_88 : decode cX2_laneFact 88 = .ok (.ireturn, 1) := by decide +kernel
theorem dX2_laneFact_89 : decode cX2_laneFact 89 = .ok (.aload_n 3, 1) := by decide +kernel
theorem dX2_laneFact_90 : decode cX2_laneFact 90 = .ok (.getfield 150, 3) := by decide +kernel
theorem dX2_laneFact_93 : decode cX2_laneFact 93 = .ok (.ireturn, 1) := by decide +kernel
theorem dX2_laneFact_94 : decode cX2_laneFact 94 = .ok (.aload_n 3, 1) := by decide +kernel
theorem dX2_laneFact_95 : decode cX2_laneFact 95 = .ok (.getfield 153, 3) := by decide +kernel
theorem dX2_laneFact_98 : decode cX2_laneFact 98 = .ok (.ireturn, 1) := by decide +kernel
theorem dX2_laneFact_99 : decode cX2_laneFact 99 = .ok (.aload_n 0, 1) := by decide +kernel
theorem dX2_laneFact_100 : decode cX2_laneFact 100 = .ok (.aload_n 3, 1) := by decide +kernel
theorem dX2_laneFact_101 : decode cX2_laneFact 101 = .ok (.invokevirtual 156, 3) := by decide +kernel
theorem dX2_laneFact_104 : decode cX2_laneFact 104 = .ok (.ireturn, 1) := by decide +kernel
theorem dX2_laneFact_105 : decode cX2_laneFact 105 = .ok (.bipush (-2), 2) := by decide +kernel
theorem dX2_laneFact_107 : decode cX2_laneFact 107 = .ok (.ireturn, 1) := by decide +kernel
def wp_X2_laneFact (m : Nat) (x1 : Int32) (x2 : Int32) (σ : Sg) (Q : Int32 → Sg → Prop) : Prop := wp_X5_isIndex x1 (4 : Int32) σ (fun r1 σ2 => ((¬ r1 = 0 → (vp_in x1 4 ∧ ∀ a5 : Nat, a5 = x1.toNatClampNeg → ((x2 = (0 : Int32) → wp_X1_sweetsInHopper m a5 σ2 (fun r14 σ15 => Q r14 σ15)) ∧ (¬ x2 = (0 : Int32) → ((x2 = (1 : Int32) → Q (σ2 m 5 a5 2) σ2) ∧ (¬ x2 = (1 : Int32) → ((x2 = (2 : Int32) → wp_X1_nextFlavour m a5 σ2 (fun r16 σ17 => Q r16 σ17)) ∧ (¬ x2 = (2 : Int32) → ((x2 = (3 : Int32) → Q (σ2 m 5 a5 3) σ2) ∧ (¬ x2 = (3 : Int32) → ((x2 = (4 : Int32) → Q (σ2 m 5 a5 4) σ2) ∧ (¬ x2 = (4 : Int32) → ((x2 = (5 : Int32) → Q (σ2 m 5 a5 5) σ2) ∧ (¬ x2 = (5 : Int32) → ((x2 = (6 : Int32) → Q (σ2 m 5 a5 6) σ2) ∧ (¬ x2 = (6 : Int32) → ((x2 = (7 : Int32) → wp_X2_reasonNow m a5 σ2 (fun r18 σ19 => Q r18 σ19)) ∧ (¬ x2 = (7 : Int32) → Q (-2 : Int32) σ2)))))))))))))))))) ∧ (r1 = 0 → Q (-1 : Int32) σ2)))
set_option maxRecDepth 100000 in
set_option maxHeartbeats 4000000 in
theorem c_X2_laneFact (l : Launch) (E : Ev) {m : Nat} {x1 : Int32} {x2 : Int32} (hm : m < 11) {σ : Sg} {Q : Int32 → Sg → Prop} (hw : wp_X2_laneFact m x1 x2 σ Q) : CT l E yX2_laneFact cX2_laneFact 4 (some .int) 4 83 [.ref (ad E m 0 0), .int x1, .int x2] σ (QI E Q) := by
  refine CT_of (by decide) (Nat.le_of_ble_eq_true rfl) (fun X h1 h2 C => ?_)
  subst h1; subst h2
  have C : Cx X cX2_laneFact "SweetWraps$Machine" (some .int) 4 83 4 (QI (tE X) Q) := C
  show G X σ [(0, .ref (ad (tE X) m 0 0)), (1, .int x1), (2, .int x2)] [] 0
  unfold wp_X2_laneFact at hw
  refine gx_iload_n C dX2_laneFact_0 1 rfl ?_
  refine gx_iconst (v := (4 : Int32)) C dX2_laneFact_1 (by decide) ?_
  refine gx_ncalli (As := [.int x1, .int (4 : Int32)]) (rest := []) (host := "SweetWraps") C (c_X5_isIndex _ _ hw) (nest_in _ (by decide +kernel)) bw_226 bw_1 bw_227 hyS_X5_isIndex ⟨by decide, by decide⟩ rfl (Nat.le_of_ble_eq_true rfl) dX2_laneFact_2 (fun r1 σ2 hw => ?_)
  refine gx_if_ne (tgt := 10) C dX2_laneFact_5 (by decide) (fun c3 => ?_) (fun c3 => ?_)
  · replace hw := hw.1 c3
    refine gx_aload_n C dX2_laneFact_10 0 rfl ?_
    refine gx_get C (ok0 hm) rfl rfl inX2 (ref := "SweetWraps$Machine") 1 (by decide) bw_95 rfl rfl dX2_laneFact_11 ?_
    refine gx_iload_n C dX2_laneFact_14 1 rfl ?_
    have h4 := hw.1
    replace hw := hw.2
    obtain ⟨a5, e_a5⟩ : ∃ z : Nat, z = x1.toNatClampNeg := ⟨_, rfl⟩
    replace hw := hw a5 e_a5
    have ha5 : a5 < 4 := by rw [e_a5]; exact vp_lt h4
    refine gx_aald C (ok2 hm) rfl (t0 := 3) rfl h4 (v := .ref (ad (tE X) m 5 a5)) (by rw [e_a5]; rfl) dX2_laneFact_15 ?_
    refine gx_astore_n (lv' := [(3, .ref (ad (tE X) m 5 a5)), (0, .ref (ad (tE X) m 0 0)), (1, .int x1), (2, .int x2)]) C dX2_laneFact_16 (by decide) rfl ?_
    refine gx_iload_n C dX2_laneFact_17 3 rfl ?_
    by_cases c6 : x2 = (0 : Int32)
    · replace hw := hw.1 c6
      refine gx_table (tgt := 64) (off := 46) C dX2_laneFact_18 (0 : Int32) c6 (by decide) (by decide) rfl (by decide) ?_
      refine gx_aload_n C dX2_laneFact_64 0 rfl ?_
      refine gx_vcalli (As := []) (rest := []) C (c_X1_sweetsInHopper _ _ hm ha5 hw) (ok5 hm ha5) rfl rfl bw_377 bw_262 bw_263 bw_3 bw_264 hy_X1_sweetsInHopper ⟨by decide, by decide⟩ rfl (Nat.le_of_ble_eq_true rfl) dX2_laneFact_65 (fun r14 σ15 hw => ?_)
      exact gx_iret C rfl rfl dX2_laneFact_68 hw
    · replace hw := hw.2 c6
      by_cases c7 : x2 = (1 : Int32)
      · replace hw := hw.1 c7
        refine gx_table (tgt := 69) (off := 51) C dX2_laneFact_18 (1 : Int32) c7 (by decide) (by decide) rfl (by decide) ?_
        refine gx_aload_n C dX2_laneFact_69 0 rfl ?_
        refine gx_get C (ok5 hm ha5) rfl rfl inX1 (ref := "SweetWraps$Lane") 2 (by decide) bw_42 rfl rfl dX2_laneFact_70 ?_
        exact gx_iret C rfl rfl dX2_laneFact_73 hw
      · replace hw := hw.2 c7
        by_cases c8 : x2 = (2 : Int32)
        · replace hw := hw.1 c8
          refine gx_table (tgt := 74) (off := 56) C dX2_laneFact_18 (2 : Int32) c8 (by decide) (by decide) rfl (by decide) ?_
          refine gx_aload_n C dX2_laneFact_74 0 rfl ?_
          refine gx_vcalli (As := []) (rest := []) C (c_X1_nextFlavour _ _ hm ha5 hw) (ok5 hm ha5) rfl rfl bw_340 bw_341 bw_342 bw_3 bw_343 hy_X1_nextFlavour ⟨by decide, by decide⟩ rfl (Nat.le_of_ble_eq_true rfl) dX2_laneFact_75 (fun r16 σ17 hw => ?_)
          exact gx_iret C rfl rfl dX2_laneFact_78 hw
        · replace hw := hw.2 c8
          by_cases c9 : x2 = (3 : Int32)
          · replace hw := hw.1 c9
            refine gx_table (tgt := 79) (off := 61) C dX2_laneFact_18 (3 : Int32) c9 (by decide) (by decide) rfl (by decide) ?_
            refine gx_aload_n C dX2_laneFact_79 0 rfl ?_
            refine gx_get C (ok5 hm ha5) rfl rfl inX1 (ref := "SweetWraps$Lane") 3 (by decide) bw_44 rfl rfl dX2_laneFact_80 ?_
            exact gx_iret C rfl rfl dX2_laneFact_83 hw
          · replace hw := hw.2 c9
            by_cases c10 : x2 = (4 : Int32)
            · replace hw := hw.1 c10
              refine gx_table (tgt := 84) (off := 66) C dX2_laneFact_18 (4 : Int32) c10 (by decide) (by decide) rfl (by decide) ?_
              refine gx_aload_n C dX2_laneFact_84 0 rfl ?_
              refine gx_get C (ok5 hm ha5) rfl rfl inX1 (ref := "SweetWraps$Lane") 4 (by decide) bw_46 rfl rfl dX2_laneFact_85 ?_
              exact gx_iret C rfl rfl dX2_laneFact_88 hw
            · replace hw := hw.2 c10
              by_cases c11 : x2 = (5 : Int32)
              · replace hw := hw.1 c11
                refine gx_table (tgt := 89) (off := 71) C dX2_laneFact_18 (5 : Int32) c11 (by decide) (by decide) rfl (by decide) ?_
                refine gx_aload_n C dX2_laneFact_89 0 rfl ?_
                refine gx_get C (ok5 hm ha5) rfl rfl inX1 (ref := "SweetWraps$Lane") 5 (by decide) bw_48 rfl rfl dX2_laneFact_90 ?_
                exact gx_iret C rfl rfl dX2_laneFact_93 hw
              · replace hw := hw.2 c11
                by_cases c12 : x2 = (6 : Int32)
                · replace hw := hw.1 c12
                  refine gx_table (tgt := 94) (off := 76) C dX2_laneFact_18 (6 : Int32) c12 (by decide) (by decide) rfl (by decide) ?_
                  refine gx_aload_n C dX2_laneFact_94 0 rfl ?_
                  refine gx_get C (ok5 hm ha5) rfl rfl inX1 (ref := "SweetWraps$Lane") 6 (by decide) bw_50 rfl rfl dX2_laneFact_95 ?_
                  exact gx_iret C rfl rfl dX2_laneFact_98 hw
                · replace hw := hw.2 c12
                  by_cases c13 : x2 = (7 : Int32)
                  · replace hw := hw.1 c13
                    refine gx_table (tgt := 99) (off := 81) C dX2_laneFact_18 (7 : Int32) c13 (by decide) (by decide) rfl (by decide) ?_
                    refine gx_aload_n C dX2_laneFact_99 1 rfl ?_
                    refine gx_aload_n C dX2_laneFact_100 0 rfl ?_
                    refine gx_vcalli (As := [.ref (ad (tE X) m 5 a5)]) (rest := []) C (c_X2_reasonNow _ _ hm ha5 hw) (ok0 hm) rfl rfl bw_378 bw_380 bs_9 bw_2 bw_381 hy_X2_reasonNow ⟨by decide, by decide⟩ rfl (Nat.le_of_ble_eq_true rfl) dX2_laneFact_101 (fun r18 σ19 hw => ?_)
                    exact gx_iret C rfl rfl dX2_laneFact_104 hw
                  · replace hw := hw.2 c13
                    refine gx_tableD (tgt := 105) C dX2_laneFact_18 (by decide) [((46 : Int), (0 : Nat)), ((51 : Int), (1 : Nat)), ((56 : Int), (2 : Nat)), ((61 : Int), (3 : Nat)), ((66 : Int), (4 : Nat)), ((71 : Int), (5 : Nat)), ((76 : Int), (6 : Nat)), ((81 : Int), (7 : Nat))] rfl (List.forall_mem_cons.mpr ⟨Or.inr ⟨(0 : Int32), c6, by decide⟩, List.forall_mem_cons.mpr ⟨Or.inr ⟨(1 : Int32), c7, by decide⟩, List.forall_mem_cons.mpr ⟨Or.inr ⟨(2 : Int32), c8, by decide⟩, List.forall_mem_cons.mpr ⟨Or.inr ⟨(3 : Int32), c9, by decide⟩, List.forall_mem_cons.mpr ⟨Or.inr ⟨(4 : Int32), c10, by decide⟩, List.forall_mem_cons.mpr ⟨Or.inr ⟨(5 : Int32), c11, by decide⟩, List.forall_mem_cons.mpr ⟨Or.inr ⟨(6 : Int32), c12, by decide⟩, List.forall_mem_cons.mpr ⟨Or.inr ⟨(7 : Int32), c13, by decide⟩, fun _ h => absurd h List.not_mem_nil⟩⟩⟩⟩⟩⟩⟩⟩) (by decide) ?_
                    refine gx_bipush (v := (-2 : Int32)) C dX2_laneFact_105 (by decide) ?_
                    exact gx_iret C rfl rfl dX2_laneFact_107 hw
  · replace hw := hw.2 c3
    refine gx_iconst (v := (-1 : Int32)) C dX2_laneFact_8 (by decide) ?_
    exact gx_iret C rfl rfl dX2_laneFact_9 hw
theorem hy_X2_laneFact : yX2_laneFact.cls = "SweetWraps$Machine" ∧ yX2_laneFact.cls ≠ "java/lang/invoke/MethodHandle" ∧ yX2_laneFact.cls ≠ "java/lang/invoke/VarHandle" ∧ (parseMethodDescriptor yX2_laneFact.desc).map (fun d => d.parameters.length) = some 2 := by decide +kernel

theorem dX2_heapFact_0 : decode cX2_heapFact 0 = .ok (.iload_n 1, 1) := by decide +kernel
theorem dX2_heapFact_1 : decode cX2_heapFact 1 = .ok (.iconst 4, 1) := by decide +kernel
theorem dX2_heapFact_2 : decode cX2_heapFact 2 = .ok (.invokestatic 56, 3) := by decide +kernel
theorem dX2_heapFact_5 : decode cX2_heapFact 5 = .ok (.ifCond .eq 16, 3) := by decide +kernel
theorem dX2_heapFact_8 : decode cX2_heapFact 8 = .ok (.aload_n 0, 1) := by decide +kernel
theorem dX2_heapFact_9 : decode cX2_heapFact 9 = .ok (.getfield 17, 3) := by decide +kernel
theorem dX2_heapFact_12 : decode cX2_heapFact 12 = .ok (.iload_n 1, 1) := by decide +kernel
theorem dX2_heapFact_13 : decode cX2_heapFact 13 = .ok (.aaload, 1) := by decide +kernel
theorem dX2_heapFact_14 : decode cX2_heapFact 14 = .ok (.iload_n 2, 1) := by decide +kernel
theorem dX2_heapFact_15 : decode cX2_heapFact 15 = .ok (.invokevirtual 159, 3) := by decide +kernel
theorem dX2_heapFact_18 : decode cX2_heapFact 18 = .ok (.ifCond .ne 5, 3) := by decide +kernel
theorem dX2_heapFact_21 : decode cX2_heapFact 21 = .ok (.iconst (-1), 1) := by decide +kernel
theorem dX2_heapFact_22 : decode cX2_heapFact 22 = .ok (.ireturn, 1) := by decide +kernel
theorem dX2_heapFact_23 : decode cX2_heapFact 23 = .ok (.iload_n 3, 1) := by decide +kernel
theorem dX2_heapFact_24 : decode cX2_heapFact 24 = .ok (.lookupswitch 52 #[(0, 28), (1, 40)], 28) := by decide +kernel
theorem dX2_heapFact_52 : decode cX2_heapFact 52 = .ok (.aload_n 0, 1) := by decide +kernel
theorem dX2_heapFact_53 : decode cX2_heapFact 53 = .ok (.getfield 17, 3) := by decide +kernel
theorem dX2_heapFact_56 : decode cX2_heapFact 56 = .ok (.iload_n 1, 1) := by decide +kernel
theorem dX2_heapFact_57 : decode cX2_heapFact 57 = .ok (.aaload, 1) := by decide +kernel
theorem dX2_heapFact_58 : decode cX2_heapFact 58 = .ok (.getfield 162, 3) := by decide +kernel
theorem dX2_heapFact_61 : decode cX2_heapFact 61 = .ok (.iload_n 2, 1) := by decide +kernel
theorem dX2_heapFact_62 : decode cX2_heapFact 62 = .ok (.iaload, 1) := by decide +kernel
theorem dX2_heapFact_63 : decode cX2_heapFact 63 = .ok (.ireturn, 1) := by decide +kernel
theorem dX2_heapFact_64 : decode cX2_heapFact 64 = .ok (.aload_n 0, 1) := by decide +kernel
theorem dX2_heapFact_65 : decode cX2_heapFact 65 = .ok (.getfield 17, 3) := by decide +kernel
theorem dX2_heapFact_68 : decode cX2_heapFact 68 = .ok (.iload_n 1, 1) := by decide +kernel
theorem dX2_heapFact_69 : decode cX2_heapFact 69 = .ok (.aaload, 1) := by decide +kernel
theorem dX2_heapFact_70 : decode cX2_heapFact 70 = .ok (.getfield 165, 3) := by decide +kernel
theorem dX2_heapFact_73 : decode cX2_heapFact 73 = .ok (.iload_n 2, 1) := by decide +kernel
theorem dX2_heapFact_74 : decode cX2_heapFact 74 = .ok (.iaload, 1) := by decide +kernel
theorem dX2_heapFact_75 : decode cX2_heapFact 75 = .ok (.ireturn, 1) := by decide +kernel
theorem dX2_heapFact_76 : decode cX2_heapFact 76 = .ok (.bipush (-2), 2) := by decide +kernel
theorem dX2_heapFact_78 : decode cX2_heapFact 78 = .ok (.ireturn, 1) := by decide +kernel
def wp_X2_heapFact (m : Nat) (x1 : Int32) (x2 : Int32) (x3 : Int32) (σ : Sg) (Q : Int32 → Sg → Prop) : Prop := wp_X5_isIndex x1 (4 : Int32) σ (fun r1 σ2 => ((r1 = 0 → Q (-1 : Int32) σ2) ∧ (¬ r1 = 0 → (vp_in x1 4 ∧ ∀ a5 : Nat, a5 = x1.toNatClampNeg → wp_X1_isHeap m a5 x2 σ2 (fun r6 σ7 => ((¬ r6 = 0 → ((x3 = (0 : Int32) → (vp_in x1 4 ∧ ∀ a12 : Nat, a12 = x1.toNatClampNeg → (vp_in x2 6 ∧ Q (σ7 m 6 a12 x2.toNatClampNeg) σ7))) ∧ (¬ x3 = (0 : Int32) → ((x3 = (1 : Int32) → (vp_in x1 4 ∧ ∀ a14 : Nat, a14 = x1.toNatClampNeg → (vp_in x2 6 ∧ Q (σ7 m 7 a14 x2.toNatClampNeg) σ7))) ∧ (¬ x3 = (1 : Int32) → Q (-2 : Int32) σ7))))) ∧ (r6 = 0 → Q (-1 : Int32) σ7)))))))
set_option maxRecDepth 100000 in
set_option maxHeartbeats 4000000 in
theorem c_X2_heapFact (l : Launch) (E : Ev) {m : Nat} {x1 : Int32} {x2 : Int32} {x3 : Int32} (hm : m < 11) {σ : Sg} {Q : Int32 → Sg → Prop} (hw : wp_X2_heapFact m x1 x2 x3 σ Q) : CT l E yX2_heapFact cX2_heapFact 4 (some .int) 2 42 [.ref (ad E m 0 0), .int x1, .int x2, .int x3] σ (QI E Q) := by
  refine CT_of (by decide) (Nat.le_of_ble_eq_true rfl) (fun X h1 h2 C => ?_)
  subst h1; subst h2
  have C : Cx X cX2_heapFact "SweetWraps$Machine" (some .int) 2 42 4 (QI (tE X) Q) := C
  show G X σ [(0, .ref (ad (tE X) m 0 0)), (1, .int x1), (2, .int x2), (3, .int x3)] [] 0
  unfold wp_X2_heapFact at hw
  refine gx_iload_n C dX2_heapFact_0 1 rfl ?_
  refine gx_iconst (v := (4 : Int32)) C dX2_heapFact_1 (by decide) ?_
  refine gx_ncalli (As := [.int x1, .int (4 : Int32)]) (rest := []) (host := "SweetWraps") C (c_X5_isIndex _ _ hw) (nest_in _ (by decide +kernel)) bw_226 bw_1 bw_227 hyS_X5_isIndex ⟨by decide, by decide⟩ rfl (Nat.le_of_ble_eq_true rfl) dX2_heapFact_2 (fun r1 σ2 hw => ?_)
  refine gx_if_eq (tgt := 21) C dX2_heapFact_5 (by decide) (fun c3 => ?_) (fun c3 => ?_)
  · replace hw := hw.1 c3
    refine gx_iconst (v := (-1 : Int32)) C dX2_heapFact_21 (by decide) ?_
    exact gx_iret C rfl rfl dX2_heapFact_22 hw
  · replace hw := hw.2 c3
    refine gx_aload_n C dX2_heapFact_8 0 rfl ?_
    refine gx_get C (ok0 hm) rfl rfl inX2 (ref := "SweetWraps$Machine") 1 (by decide) bw_95 rfl rfl dX2_heapFact_9 ?_
    refine gx_iload_n C dX2_heapFact_12 1 rfl ?_
    have h4 := hw.1
    replace hw := hw.2
    obtain ⟨a5, e_a5⟩ : ∃ z : Nat, z = x1.toNatClampNeg := ⟨_, rfl⟩
    replace hw := hw a5 e_a5
    have ha5 : a5 < 4 := by rw [e_a5]; exact vp_lt h4
    refine gx_aald C (ok2 hm) rfl (t0 := 3) rfl h4 (v := .ref (ad (tE X) m 5 a5)) (by rw [e_a5]; rfl) dX2_heapFact_13 ?_
    refine gx_iload_n C dX2_heapFact_14 2 rfl ?_
    refine gx_vcalli (As := [.int x2]) (rest := []) C (c_X1_isHeap _ _ hm ha5 hw) (ok5 hm ha5) rfl rfl bw_390 bw_257 bw_258 bw_3 bw_259 hy_X1_isHeap ⟨by decide, by decide⟩ rfl (Nat.le_of_ble_eq_true rfl) dX2_heapFact_15 (fun r6 σ7 hw => ?_)
    refine gx_if_ne (tgt := 23) C dX2_heapFact_18 (by decide) (fun c8 => ?_) (fun c8 => ?_)
    · replace hw := hw.1 c8
      refine gx_iload_n C dX2_heapFact_23 3 rfl ?_
      by_cases c9 : x3 = (0 : Int32)
      · replace hw := hw.1 c9
        refine gx_lookup (tgt := 52) (off := 28) C dX2_heapFact_24 (by decide) (by rw [c9]; rfl) (by decide) ?_
        refine gx_aload_n C dX2_heapFact_52 0 rfl ?_
        refine gx_get C (ok0 hm) rfl rfl inX2 (ref := "SweetWraps$Machine") 1 (by decide) bw_95 rfl rfl dX2_heapFact_53 ?_
        refine gx_iload_n C dX2_heapFact_56 1 rfl ?_
        have h11 := hw.1
        replace hw := hw.2
        obtain ⟨a12, e_a12⟩ : ∃ z : Nat, z = x1.toNatClampNeg := ⟨_, rfl⟩
        replace hw := hw a12 e_a12
        have ha12 : a12 < 4 := by rw [e_a12]; exact vp_lt h11
        refine gx_aald C (ok2 hm) rfl (t0 := 3) rfl h11 (v := .ref (ad (tE X) m 5 a12)) (by rw [e_a12]; rfl) dX2_heapFact_57 ?_
        refine gx_get C (ok5 hm ha12) rfl rfl inX1 (ref := "SweetWraps$Lane") 0 (by decide) bw_38 rfl rfl dX2_heapFact_58 ?_
        refine gx_iload_n C dX2_heapFact_61 2 rfl ?_
        refine gx_iald C (ok6 hm ha12) rfl hw.1 _ rfl dX2_heapFact_62 ?_
        replace hw := hw.2
        exact gx_iret C rfl rfl dX2_heapFact_63 hw
      · replace hw := hw.2 c9
        by_cases c10 : x3 = (1 : Int32)
        · replace hw := hw.1 c10
          refine gx_lookup (tgt := 64) (off := 40) C dX2_heapFact_24 (by decide) (by rw [c10]; rfl) (by decide) ?_
          refine gx_aload_n C dX2_heapFact_64 0 rfl ?_
          refine gx_get C (ok0 hm) rfl rfl inX2 (ref := "SweetWraps$Machine") 1 (by decide) bw_95 rfl rfl dX2_heapFact_65 ?_
          refine gx_iload_n C dX2_heapFact_68 1 rfl ?_
          have h13 := hw.1
          replace hw := hw.2
          obtain ⟨a14, e_a14⟩ : ∃ z : Nat, z = x1.toNatClampNeg := ⟨_, rfl⟩
          replace hw := hw a14 e_a14
          have ha14 : a14 < 4 := by rw [e_a14]; exact vp_lt h13
          refine gx_aald C (ok2 hm) rfl (t0 := 3) rfl h13 (v := .ref (ad (tE X) m 5 a14)) (by rw [e_a14]; rfl) dX2_heapFact_69 ?_
          refine gx_get C (ok5 hm ha14) rfl rfl inX1 (ref := "SweetWraps$Lane") 1 (by decide) bw_40 rfl rfl dX2_heapFact_70 ?_
          refine gx_iload_n C dX2_heapFact_73 2 rfl ?_
          refine gx_iald C (ok7 hm ha14) rfl hw.1 _ rfl dX2_heapFact_74 ?_
          replace hw := hw.2
          exact gx_iret C rfl rfl dX2_heapFact_75 hw
        · replace hw := hw.2 c10
          refine gx_lookup (tgt := 76) (off := 52) C dX2_heapFact_24 (by decide) ((lv_osw c9 (by decide)).trans ((lv_osw c10 (by decide)).trans (rfl))) (by decide) ?_
          refine gx_bipush (v := (-2 : Int32)) C dX2_heapFact_76 (by decide) ?_
          exact gx_iret C rfl rfl dX2_heapFact_78 hw
    · replace hw := hw.2 c8
      refine gx_iconst (v := (-1 : Int32)) C dX2_heapFact_21 (by decide) ?_
      exact gx_iret C rfl rfl dX2_heapFact_22 hw
theorem hy_X2_heapFact : yX2_heapFact.cls = "SweetWraps$Machine" ∧ yX2_heapFact.cls ≠ "java/lang/invoke/MethodHandle" ∧ yX2_heapFact.cls ≠ "java/lang/invoke/VarHandle" ∧ (parseMethodDescriptor yX2_heapFact.desc).map (fun d => d.parameters.length) = some 3 := by decide +kernel

theorem dX2_overLanes_0 : decode cX2_overLanes 0 = .ok (.iconst 0, 1) := by decide +kernel
theorem dX2_overLanes_1 : decode cX2_overLanes 1 = .ok (.istore_n 2, 1) := by decide +kernel
theorem dX2_overLanes_2 : decode cX2_overLanes 2 = .ok (.iconst 0, 1) := by decide +kernel
theorem dX2_overLanes_3 : decode cX2_overLanes 3 = .ok (.istore_n 3, 1) := by decide +kernel
theorem dX2_overLanes_4 : decode cX2_overLanes 4 = .ok (.iload_n 3, 1) := by decide +kernel
theorem dX2_overLanes_5 : decode cX2_overLanes 5 = .ok (.iconst 4, 1) := by decide +kernel
theorem dX2_overLanes_6 : decode cX2_overLanes 6 = .ok (.if_icmp .ge 18, 3) := by decide +kernel
theorem dX2_overLanes_9 : decode cX2_overLanes 9 = .ok (.iload_n 2, 1) := by decide +kernel
theorem dX2_overLanes_10 : decode cX2_overLanes 10 = .ok (.aload_n 0, 1) := by decide +kernel
theorem dX2_overLanes_11 : decode cX2_overLanes 11 = .ok (.iload_n 3, 1) := by decide +kernel
theorem dX2_overLanes_12 : decode cX2_overLanes 12 = .ok (.iload_n 1, 1) := by decide +kernel
theorem dX2_overLanes_13 : decode cX2_overLanes 13 = .ok (.invokevirtual 168, 3) := by decide +kernel
theorem dX2_overLanes_16 : decode cX2_overLanes 16 = .ok (.iadd, 1) := by decide +kernel
theorem dX2_overLanes_17 : decode cX2_overLanes 17 = .ok (.istore_n 2, 1) := by decide +kernel
theorem dX2_overLanes_18 : decode cX2_overLanes 18 = .ok (.iinc 3 1, 3) := by decide +kernel
theorem dX2_overLanes_21 : decode cX2_overLanes 21 = .ok (.goto (-17), 3) := by decide +kernel
theorem dX2_overLanes_24 : decode cX2_overLanes 24 = .ok (.iload_n 2, 1) := by decide +kernel
theorem dX2_overLanes_25 : decode cX2_overLanes 25 = .ok (.ireturn, 1) := by decide +kernel
def st_X2_overLanes_L4 (m : Nat) (x1 : Int32) (Q : Int32 → Sg → Prop) (K4 : Int32 → Int32 → Sg → Prop) (v2 : Int32) (v3 : Int32) (σ : Sg) : Prop := (((4 : Int32) ≤ v3 → Q v2 σ) ∧ (¬ (4 : Int32) ≤ v3 → wp_X2_laneFact m v3 x1 σ (fun r2 σ3 => ∀ z4 : Int32, z4 = (v2 + r2) → ∀ z5 : Int32, z5 = v3 + (1 : Int32) → K4 z4 z5 σ3)))
def wp_X2_overLanes_L4 (m : Nat) (x1 : Int32) (Q : Int32 → Sg → Prop) (v2 : Int32) (v3 : Int32) (σ : Sg) : Prop := ∃ n : Nat, lpN (fun (K : Int32 × Int32 × Sg → Prop) (a : Int32 × Int32 × Sg) => st_X2_overLanes_L4 m x1 Q (fun v2 v3 σ => K (v2, v3, σ)) (a.1) (a.2.1) (a.2.2)) n (v2, v3, σ)
set_option maxRecDepth 100000 in
set_option maxHeartbeats 4000000 in
theorem gs_X2_overLanes_L4 {X : Tx} {Q : Int32 → Sg → Prop} (C : Cx X cX2_overLanes "SweetWraps$Machine" (some .int) 5 106 4 (QI (tE X) Q)) {m : Nat} {x1 : Int32} (hm : m < 11) {K4 : Int32 → Int32 → Sg → Prop} (hK4 : ∀ (v2 : Int32) (v3 : Int32) (σ : Sg), K4 v2 v3 σ → G X σ [(0, .ref (ad (tE X) m 0 0)), (1, .int x1), (2, .int v2), (3, .int v3)] [] 4) {v2 : Int32} {v3 : Int32} {σ : Sg} (hw : st_X2_overLanes_L4 m x1 Q K4 v2 v3 σ) : G X σ [(0, .ref (ad (tE X) m 0 0)), (1, .int x1), (2, .int v2), (3, .int v3)] [] 4 := by
  unfold st_X2_overLanes_L4 at hw
  refine gx_iload_n C dX2_overLanes_4 3 rfl ?_
  refine gx_iconst (v := (4 : Int32)) C dX2_overLanes_5 (by decide) ?_
  refine gx_icmp_ge (tgt := 24) C dX2_overLanes_6 (by decide) (fun c1 => ?_) (fun c1 => ?_)
  · replace hw := hw.1 c1
    refine gx_iload_n C dX2_overLanes_24 2 rfl ?_
    exact gx_iret C rfl rfl dX2_overLanes_25 hw
  · replace hw := hw.2 c1
    refine gx_iload_n C dX2_overLanes_9 2 rfl ?_
    refine gx_aload_n C dX2_overLanes_10 0 rfl ?_
    refine gx_iload_n C dX2_overLanes_11 3 rfl ?_
    refine gx_iload_n C dX2_overLanes_12 1 rfl ?_
    refine gx_vcalli (As := [.int v3, .int x1]) (rest := [.int v2]) C (c_X2_laneFact _ _ hm hw) (ok0 hm) rfl rfl bw_475 bw_374 bw_375 bw_2 bw_376 hy_X2_laneFact ⟨by decide, by decide⟩ rfl (Nat.le_of_ble_eq_true rfl) dX2_overLanes_13 (fun r2 σ3 hw => ?_)
    refine gx_iadd C dX2_overLanes_16 ?_
    obtain ⟨z4, e_z4⟩ : ∃ z : Int32, z = (v2 + r2) := ⟨_, rfl⟩
    replace hw := hw z4 e_z4
    refine gx_top e_z4 ?_
    refine gx_istore_n (lv' := [(2, .int z4), (0, .ref (ad (tE X) m 0 0)), (1, .int x1), (3, .int v3)]) C dX2_overLanes_17 (by decide) rfl ?_
    obtain ⟨z5, e_z5⟩ : ∃ z : Int32, z = v3 + (1 : Int32) := ⟨_, rfl⟩
    replace hw := hw z5 e_z5
    refine gx_iinc (v := z5) (lv' := [(3, .int z5), (2, .int z4), (0, .ref (ad (tE X) m 0 0)), (1, .int x1)]) C dX2_overLanes_18 3 rfl (by rw [e_z5]; rfl) (by decide) rfl ?_
    refine gx_goto (tgt := 4) C dX2_overLanes_21 (by decide) ?_
    refine gx_sub (lv' := [(0, .ref (ad (tE X) m 0 0)), (1, .int x1), (2, .int z4), (3, .int z5)]) [2, 3, 1, 0] rfl ?_
    exact hK4 _ _ _ hw
set_option maxRecDepth 100000 in
set_option maxHeartbeats 4000000 in
theorem g_X2_overLanes_L4 {X : Tx} {Q : Int32 → Sg → Prop} (C : Cx X cX2_overLanes "SweetWraps$Machine" (some .int) 5 106 4 (QI (tE X) Q)) {m : Nat} {x1 : Int32} (hm : m < 11) {v2 : Int32} {v3 : Int32} {σ : Sg} (hw : wp_X2_overLanes_L4 m x1 Q v2 v3 σ) : G X σ [(0, .ref (ad (tE X) m 0 0)), (1, .int x1), (2, .int v2), (3, .int v3)] [] 4 := by
  obtain ⟨n, hw⟩ := hw
  exact lpN_G (P := (fun (a : Int32 × Int32 × Sg) => G X (a.2.2) [(0, .ref (ad (tE X) m 0 0)), (1, .int x1), (2, .int (a.1)), (3, .int (a.2.1))] [] 4)) (fun K a hK h => gs_X2_overLanes_L4 C hm (fun v2 v3 σ h => hK (v2, v3, σ) h) h) n _ hw
def wp_X2_overLanes (m : Nat) (x1 : Int32) (σ : Sg) (Q : Int32 → Sg → Prop) : Prop := wp_X2_overLanes_L4 m x1 Q (0 : Int32) (0 : Int32) σ
set_option maxRecDepth 100000 in
set_option maxHeartbeats 4000000 in
theorem c_X2_overLanes (l : Launch) (E : Ev) {m : Nat} {x1 : Int32} (hm : m < 11) {σ : Sg} {Q : Int32 → Sg → Prop} (hw : wp_X2_overLanes m x1 σ Q) : CT l E yX2_overLanes cX2_overLanes 4 (some .int) 5 106 [.ref (ad E m 0 0), .int x1] σ (QI E Q) := by
  refine CT_of (by decide) (Nat.le_of_ble_eq_true rfl) (fun X h1 h2 C => ?_)
  subst h1; subst h2
  have C : Cx X cX2_overLanes "SweetWraps$Machine" (some .int) 5 106 4 (QI (tE X) Q) := C
  show G X σ [(0, .ref (ad (tE X) m 0 0)), (1, .int x1)] [] 0
  unfold wp_X2_overLanes at hw
  refine gx_iconst (v := (0 : Int32)) C dX2_overLanes_0 (by decide) ?_
  refine gx_istore_n (lv' := [(2, .int (0 : Int32)), (0, .ref (ad (tE X) m 0 0)), (1, .int x1)]) C dX2_overLanes_1 (by decide) rfl ?_
  refine gx_iconst (v := (0 : Int32)) C dX2_overLanes_2 (by decide) ?_
  refine gx_istore_n (lv' := [(3, .int (0 : Int32)), (2, .int (0 : Int32)), (0, .ref (ad (tE X) m 0 0)), (1, .int x1)]) C dX2_overLanes_3 (by decide) rfl ?_
  refine gx_sub (lv' := [(0, .ref (ad (tE X) m 0 0)), (1, .int x1), (2, .int (0 : Int32)), (3, .int (0 : Int32))]) [2, 3, 1, 0] rfl ?_
  exact g_X2_overLanes_L4 C hm hw
theorem hy_X2_overLanes : yX2_overLanes.cls = "SweetWraps$Machine" ∧ yX2_overLanes.cls ≠ "java/lang/invoke/MethodHandle" ∧ yX2_overLanes.cls ≠ "java/lang/invoke/VarHandle" ∧ (parseMethodDescriptor yX2_overLanes.desc).map (fun d => d.parameters.length) = some 1 := by decide +kernel

theorem dX2_standingLanes_0 : decode cX2_standingLanes 0 = .ok (.iconst 0, 1) := by decide +kernel
theorem dX2_standingLanes_1 : decode cX2_standingLanes 1 = .ok (.istore_n 1, 1) := by decide +kernel
theorem dX2_standingLanes_2 : decode cX2_standingLanes 2 = .ok (.iconst 0, 1) := by decide +kernel
theorem dX2_standingLanes_3 : decode cX2_standingLanes 3 = .ok (.istore_n 2, 1) := by decide +kernel
theorem dX2_standingLanes_4 : decode cX2_standingLanes 4 = .ok (.iload_n 2, 1) := by decide +kernel
theorem dX2_standingLanes_5 : decode cX2_standingLanes 5 = .ok (.iconst 4, 1) := by decide +kernel
theorem dX2_standingLanes_6 : decode cX2_standingLanes 6 = .ok (.if_icmp .ge 28, 3) := by decide +kernel
theorem dX2_standingLanes_9 : decode cX2_standingLanes 9 = .ok (.aload_n 0, 1) := by decide +kernel
theorem dX2_standingLanes_10 : decode cX2_standingLanes 10 = .ok (.aload_n 0, 1) := by decide +kernel
theorem dX2_standingLanes_11 : decode cX2_standingLanes 11 = .ok (.getfield 17, 3) := by decide +kernel
theorem dX2_standingLanes_14 : decode cX2_standingLanes 14 = .ok (.iload_n 2, 1) := by decide +kernel
theorem dX2_standingLanes_15 : decode cX2_standingLanes 15 = .ok (.aaload, 1) := by decide +kernel
theorem dX2_standingLanes_16 : decode cX2_standingLanes 16 = .ok (.invokevirtual 156, 3) := by decide +kernel
theorem dX2_standingLanes_19 : decode cX2_standingLanes 19 = .ok (.ifCond .eq 9, 3) := by decide +kernel
theorem dX2_standingLanes_22 : decode cX2_standingLanes 22 = .ok (.iload_n 1, 1) := by decide +kernel
theorem dX2_standingLanes_23 : decode cX2_standingLanes 23 = .ok (.iconst 1, 1) := by decide +kernel
theorem dX2_standingLanes_24 : decode cX2_standingLanes 24 = .ok (.iload_n 2, 1) := by decide +kernel
theorem dX2_standingLanes_25 : decode cX2_standingLanes 25 = .ok (.ishl, 1) := by decide +kernel
theorem dX2_standingLanes_26 : decode cX2_standingLanes 26 = .ok (.ior, 1) := by decide +kernel
theorem dX2_standingLanes_27 : decode cX2_standingLanes 27 = .ok (.istore_n 1, 1) := by decide +kernel
theorem dX2_standingLanes_28 : decode cX2_standingLanes 28 = .ok (.iinc 2 1, 3) := by decide +kernel
theorem dX2_standingLanes_31 : decode cX2_standingLanes 31 = .ok (.goto (-27), 3) := by decide +kernel
theorem dX2_standingLanes_34 : decode cX2_standingLanes 34 = .ok (.iload_n 1, 1) := by decide +kernel
theorem dX2_standingLanes_35 : decode cX2_standingLanes 35 = .ok (.ireturn, 1) := by decide +kernel
def wp_X2_standingLanes_b28 (m : Nat) (K4 : Int32 → Int32 → Sg → Prop) (Q : Int32 → Sg → Prop) (v1 : Int32) (v2 : Int32) (σ : Sg) : Prop := ∀ z8 : Int32, z8 = v2 + (1 : Int32) → K4 v1 z8 σ
set_option maxRecDepth 100000 in
set_option maxHeartbeats 4000000 in
theorem g_X2_standingLanes_b28 {X : Tx} {Q : Int32 → Sg → Prop} (C : Cx X cX2_standingLanes "SweetWraps$Machine" (some .int) 4 83 3 (QI (tE X) Q)) {m : Nat} (hm : m < 11) {K4 : Int32 → Int32 → Sg → Prop} (hK4 : ∀ (v1 : Int32) (v2 : Int32) (σ : Sg), K4 v1 v2 σ → G X σ [(0, .ref (ad (tE X) m 0 0)), (1, .int v1), (2, .int v2)] [] 4) {v1 : Int32} {v2 : Int32} {σ : Sg} (hw : wp_X2_standingLanes_b28 m K4 Q v1 v2 σ) : G X σ [(0, .ref (ad (tE X) m 0 0)), (1, .int v1), (2, .int v2)] [] 28 := by
  unfold wp_X2_standingLanes_b28 at hw
  obtain ⟨z8, e_z8⟩ : ∃ z : Int32, z = v2 + (1 : Int32) := ⟨_, rfl⟩
  replace hw := hw z8 e_z8
  refine gx_iinc (v := z8) (lv' := [(2, .int z8), (0, .ref (ad (tE X) m 0 0)), (1, .int v1)]) C dX2_standingLanes_28 2 rfl (by rw [e_z8]; rfl) (by decide) rfl ?_
  refine gx_goto (tgt := 4) C dX2_standingLanes_31 (by decide) ?_
  refine gx_sub (lv' := [(0, .ref (ad (tE X) m 0 0)), (1, .int v1), (2, .int z8)]) [1, 2, 0] rfl ?_
  exact hK4 _ _ _ hw
def st_X2_standingLanes_L4 (m : Nat) (Q : Int32 → Sg → Prop) (K4 : Int32 → Int32 → Sg → Prop) (v1 : Int32) (v2 : Int32) (σ : Sg) : Prop := (((4 : Int32) ≤ v2 → Q v1 σ) ∧ (¬ (4 : Int32) ≤ v2 → (vp_in v2 4 ∧ ∀ a3 : Nat, a3 = v2.toNatClampNeg → wp_X2_reasonNow m a3 σ (fun r4 σ5 => ((r4 = 0 → wp_X2_standingLanes_b28 m K4 Q v1 v2 σ5) ∧ (¬ r4 = 0 → ∀ z7 : Int32, z7 = (v1 ||| ((1 : Int32) <<< (v2 &&& 31))) → wp_X2_standingLanes_b28 m K4 Q z7 v2 σ5))))))
def wp_X2_standingLanes_L4 (m : Nat) (Q : Int32 → Sg → Prop) (v1 : Int32) (v2 : Int32) (σ : Sg) : Prop := ∃ n : Nat, lpN (fun (K : Int32 × Int32 × Sg → Prop) (a : Int32 × Int32 × Sg) => st_X2_standingLanes_L4 m Q (fun v1 v2 σ => K (v1, v2, σ)) (a.1) (a.2.1) (a.2.2)) n (v1, v2, σ)
set_option maxRecDepth 100000 in
set_option maxHeartbeats 4000000 in
theorem gs_X2_standingLanes_L4 {X : Tx} {Q : Int32 → Sg → Prop} (C : Cx X cX2_standingLanes "SweetWraps$Machine" (some .int) 4 83 3 (QI (tE X) Q)) {m : Nat} (hm : m < 11) {K4 : Int32 → Int32 → Sg → Prop} (hK4 : ∀ (v1 : Int32) (v2 : Int32) (σ : Sg), K4 v1 v2 σ → G X σ [(0, .ref (ad (tE X) m 0 0)), (1, .int v1), (2, .int v2)] [] 4) {v1 : Int32} {v2 : Int32} {σ : Sg} (hw : st_X2_standingLanes_L4 m Q K4 v1 v2 σ) : G X σ [(0, .ref (ad (tE X) m 0 0)), (1, .int v1), (2, .int v2)] [] 4 := by
  unfold st_X2_standingLanes_L4 at hw
  refine gx_iload_n C dX2_standingLanes_4 2 rfl ?_
  refine gx_iconst (v := (4 : Int32)) C dX2_standingLanes_5 (by decide) ?_
  refine gx_icmp_ge (tgt := 34) C dX2_standingLanes_6 (by decide) (fun c1 => ?_) (fun c1 => ?_)
  · replace hw := hw.1 c1
    refine gx_iload_n C dX2_standingLanes_34 1 rfl ?_
    exact gx_iret C rfl rfl dX2_standingLanes_35 hw
  · replace hw := hw.2 c1
    refine gx_aload_n C dX2_standingLanes_9 0 rfl ?_
    refine gx_aload_n C dX2_standingLanes_10 0 rfl ?_
    refine gx_get C (ok0 hm) rfl rfl inX2 (ref := "SweetWraps$Machine") 1 (by decide) bw_95 rfl rfl dX2_standingLanes_11 ?_
    refine gx_iload_n C dX2_standingLanes_14 2 rfl ?_
    have h2 := hw.1
    replace hw := hw.2
    obtain ⟨a3, e_a3⟩ : ∃ z : Nat, z = v2.toNatClampNeg := ⟨_, rfl⟩
    replace hw := hw a3 e_a3
    have ha3 : a3 < 4 := by rw [e_a3]; exact vp_lt h2
    refine gx_aald C (ok2 hm) rfl (t0 := 3) rfl h2 (v := .ref (ad (tE X) m 5 a3)) (by rw [e_a3]; rfl) dX2_standingLanes_15 ?_
    refine gx_vcalli (As := [.ref (ad (tE X) m 5 a3)]) (rest := []) C (c_X2_reasonNow _ _ hm ha3 hw) (ok0 hm) rfl rfl bw_378 bw_380 bs_9 bw_2 bw_381 hy_X2_reasonNow ⟨by decide, by decide⟩ rfl (Nat.le_of_ble_eq_true rfl) dX2_standingLanes_16 (fun r4 σ5 hw => ?_)
    refine gx_if_eq (tgt := 28) C dX2_standingLanes_19 (by decide) (fun c6 => ?_) (fun c6 => ?_)
    · replace hw := hw.1 c6
      exact g_X2_standingLanes_b28 C hm hK4 hw
    · replace hw := hw.2 c6
      refine gx_iload_n C dX2_standingLanes_22 1 rfl ?_
      refine gx_iconst (v := (1 : Int32)) C dX2_standingLanes_23 (by decide) ?_
      refine gx_iload_n C dX2_standingLanes_24 2 rfl ?_
      refine gx_ishl C dX2_standingLanes_25 ?_
      refine gx_ior C dX2_standingLanes_26 ?_
      obtain ⟨z7, e_z7⟩ : ∃ z : Int32, z = (v1 ||| ((1 : Int32) <<< (v2 &&& 31))) := ⟨_, rfl⟩
      replace hw := hw z7 e_z7
      refine gx_top e_z7 ?_
      refine gx_istore_n (lv' := [(1, .int z7), (0, .ref (ad (tE X) m 0 0)), (2, .int v2)]) C dX2_standingLanes_27 (by decide) rfl ?_
      refine gx_sub (lv' := [(0, .ref (ad (tE X) m 0 0)), (1, .int z7), (2, .int v2)]) [1, 0, 2] rfl ?_
      exact g_X2_standingLanes_b28 C hm hK4 hw
set_option maxRecDepth 100000 in
set_option maxHeartbeats 4000000 in
theorem g_X2_standingLanes_L4 {X : Tx} {Q : Int32 → Sg → Prop} (C : Cx X cX2_standingLanes "SweetWraps$Machine" (some .int) 4 83 3 (QI (tE X) Q)) {m : Nat} (hm : m < 11) {v1 : Int32} {v2 : Int32} {σ : Sg} (hw : wp_X2_standingLanes_L4 m Q v1 v2 σ) : G X σ [(0, .ref (ad (tE X) m 0 0)), (1, .int v1), (2, .int v2)] [] 4 := by
  obtain ⟨n, hw⟩ := hw
  exact lpN_G (P := (fun (a : Int32 × Int32 × Sg) => G X (a.2.2) [(0, .ref (ad (tE X) m 0 0)), (1, .int (a.1)), (2, .int (a.2.1))] [] 4)) (fun K a hK h => gs_X2_standingLanes_L4 C hm (fun v1 v2 σ h => hK (v1, v2, σ) h) h) n _ hw
def wp_X2_standingLanes (m : Nat) (σ : Sg) (Q : Int32 → Sg → Prop) : Prop := wp_X2_standingLanes_L4 m Q (0 : Int32) (0 : Int32) σ
set_option maxRecDepth 100000 in
set_option maxHeartbeats 4000000 in
theorem c_X2_standingLanes (l : Launch) (E : Ev) {m : Nat} (hm : m < 11) {σ : Sg} {Q : Int32 → Sg → Prop} (hw : wp_X2_standingLanes m σ Q) : CT l E yX2_standingLanes cX2_standingLanes 3 (some .int) 4 83 [.ref (ad E m 0 0)] σ (QI E Q) := by
  refine CT_of (by decide) (Nat.le_of_ble_eq_true rfl) (fun X h1 h2 C => ?_)
  subst h1; subst h2
  have C : Cx X cX2_standingLanes "SweetWraps$Machine" (some .int) 4 83 3 (QI (tE X) Q) := C
  show G X σ [(0, .ref (ad (tE X) m 0 0))] [] 0
  unfold wp_X2_standingLanes at hw
  refine gx_iconst (v := (0 : Int32)) C dX2_standingLanes_0 (by decide) ?_
  refine gx_istore_n (lv' := [(1, .int (0 : Int32)), (0, .ref (ad (tE X) m 0 0))]) C dX2_standingLanes_1 (by decide) rfl ?_
  refine gx_iconst (v := (0 : Int32)) C dX2_standingLanes_2 (by decide) ?_
  refine gx_istore_n (lv' := [(2, .int (0 : Int32)), (1, .int (0 : Int32)), (0, .ref (ad (tE X) m 0 0))]) C dX2_standingLanes_3 (by decide) rfl ?_
  refine gx_sub (lv' := [(0, .ref (ad (tE X) m 0 0)), (1, .int (0 : Int32)), (2, .int (0 : Int32))]) [2, 1, 0] rfl ?_
  exact g_X2_standingLanes_L4 C hm hw
theorem hy_X2_standingLanes : yX2_standingLanes.cls = "SweetWraps$Machine" ∧ yX2_standingLanes.cls ≠ "java/lang/invoke/MethodHandle" ∧ yX2_standingLanes.cls ≠ "java/lang/invoke/VarHandle" ∧ (parseMethodDescriptor yX2_standingLanes.desc).map (fun d => d.parameters.length) = some 0 := by decide +kernel

theorem dX2_flavoursTakenBy_0 : decode cX2_flavoursTakenBy 0 = .ok (.iconst 0, 1) := by decide +kernel
theorem dX2_flavoursTakenBy_1 : decode cX2_flavoursTakenBy 1 = .ok (.istore_n 2, 1) := by decide +kernel
theorem dX2_flavoursTakenBy_2 : decode cX2_flavoursTakenBy 2 = .ok (.iconst 0, 1) := by decide +kernel
theorem dX2_flavoursTakenBy_3 : decode cX2_flavoursTakenBy 3 = .ok (.istore_n 3, 1) := by decide +kernel
theorem dX2_flavoursTakenBy_4 : decode cX2_flavoursTakenBy 4 = .ok (.iload_n 3, 1) := by decide +kernel
theorem dX2_flavoursTakenBy_5 : decode cX2_flavoursTakenBy 5 = .ok (.bipush 6, 2) := by decide +kernel
theorem dX2_flavoursTakenBy_7 : decode cX2_flavoursTakenBy 7 = .ok (.if_icmp .ge 34, 3) := by decide +kernel
theorem dX2_flavoursTakenBy_10 : decode cX2_flavoursTakenBy 10 = .ok (.aload_n 1, 1) := by decide +kernel
theorem dX2_flavoursTakenBy_11 : decode cX2_flavoursTakenBy 11 = .ok (.aload_n 0, 1) := by decide +kernel
theorem dX2_flavoursTakenBy_12 : decode cX2_flavoursTakenBy 12 = .ok (.getfield 9, 3) := by decide +kernel
theorem dX2_flavoursTakenBy_15 : decode cX2_flavoursTakenBy 15 = .ok (.iconst 2, 1) := by decide +kernel
theorem dX2_flavoursTakenBy_16 : decode cX2_flavoursTakenBy 16 = .ok (.iaload, 1) := by decide +kernel
theorem dX2_flavoursTakenBy_17 : decode cX2_flavoursTakenBy 17 = .ok (.aload_n 0, 1) := by decide +kernel
theorem dX2_flavoursTakenBy_18 : decode cX2_flavoursTakenBy 18 = .ok (.getfield 27, 3) := by decide +kernel
theorem dX2_flavoursTakenBy_21 : decode cX2_flavoursTakenBy 21 = .ok (.iload_n 3, 1) := by decide +kernel
theorem dX2_flavoursTakenBy_22 : decode cX2_flavoursTakenBy 22 = .ok (.iaload, 1) := by decide +kernel
theorem dX2_flavoursTakenBy_23 : decode cX2_flavoursTakenBy 23 = .ok (.invokevirtual 141, 3) := by decide +kernel
theorem dX2_flavoursTakenBy_26 : decode cX2_flavoursTakenBy 26 = .ok (.ifCond .eq 9, 3) := by decide +kernel
theorem dX2_flavoursTakenBy_29 : decode cX2_flavoursTakenBy 29 = .ok (.iload_n 2, 1) := by decide +kernel
theorem dX2_flavoursTakenBy_30 : decode cX2_flavoursTakenBy 30 = .ok (.iconst 1, 1) := by decide +kernel
theorem dX2_flavoursTakenBy_31 : decode cX2_flavoursTakenBy 31 = .ok (.iload_n 3, 1) := by decide +kernel
theorem dX2_flavoursTakenBy_32 : decode cX2_flavoursTakenBy 32 = .ok (.ishl, 1) := by decide +kernel
theorem dX2_flavoursTakenBy_33 : decode cX2_flavoursTakenBy 33 = .ok (.ior, 1) := by decide +kernel
theorem dX2_flavoursTakenBy_34 : decode cX2_flavoursTakenBy 34 = .ok (.istore_n 2, 1) := by decide +kernel
theorem dX2_flavoursTakenBy_35 : decode cX2_flavoursTakenBy 35 = .ok (.iinc 3 1, 3) := by decide +kernel
theorem dX2_flavoursTakenBy_38 : decode cX2_flavoursTakenBy 38 = .ok (.goto (-34), 3) := by decide +kernel
theorem dX2_flavoursTakenBy_41 : decode cX2_flavoursTakenBy 41 = .ok (.iload_n 2, 1) := by decide +kernel
theorem dX2_flavoursTakenBy_42 : decode cX2_flavoursTakenBy 42 = .ok (.ireturn, 1) := by decide +kernel
def wp_X2_flavoursTakenBy_b35 (m : Nat) (i1 : Nat) (K4 : Int32 → Int32 → Sg → Prop) (Q : Int32 → Sg → Prop) (v2 : Int32) (v3 : Int32) (σ : Sg) : Prop := ∀ z6 : Int32, z6 = v3 + (1 : Int32) → K4 v2 z6 σ
set_option maxRecDepth 100000 in
set_option maxHeartbeats 4000000 in
theorem g_X2_flavoursTakenBy_b35 {X : Tx} {Q : Int32 → Sg → Prop} (C : Cx X cX2_flavoursTakenBy "SweetWraps$Machine" (some .int) 1 22 4 (QI (tE X) Q)) {m : Nat} {i1 : Nat} (hm : m < 11) (hi1 : i1 < 16) {K4 : Int32 → Int32 → Sg → Prop} (hK4 : ∀ (v2 : Int32) (v3 : Int32) (σ : Sg), K4 v2 v3 σ → G X σ [(0, .ref (ad (tE X) m 0 0)), (1, .ref (ad (tE X) m 8 i1)), (2, .int v2), (3, .int v3)] [] 4) {v2 : Int32} {v3 : Int32} {σ : Sg} (hw : wp_X2_flavoursTakenBy_b35 m i1 K4 Q v2 v3 σ) : G X σ [(0, .ref (ad (tE X) m 0 0)), (1, .ref (ad (tE X) m 8 i1)), (2, .int v2), (3, .int v3)] [] 35 := by
  unfold wp_X2_flavoursTakenBy_b35 at hw
  obtain ⟨z6, e_z6⟩ : ∃ z : Int32, z = v3 + (1 : Int32) := ⟨_, rfl⟩
  replace hw := hw z6 e_z6
  refine gx_iinc (v := z6) (lv' := [(3, .int z6), (0, .ref (ad (tE X) m 0 0)), (1, .ref (ad (tE X) m 8 i1)), (2, .int v2)]) C dX2_flavoursTakenBy_35 3 rfl (by rw [e_z6]; rfl) (by decide) rfl ?_
  refine gx_goto (tgt := 4) C dX2_flavoursTakenBy_38 (by decide) ?_
  refine gx_sub (lv' := [(0, .ref (ad (tE X) m 0 0)), (1, .ref (ad (tE X) m 8 i1)), (2, .int v2), (3, .int z6)]) [1, 2, 3, 0] rfl ?_
  exact hK4 _ _ _ hw
def st_X2_flavoursTakenBy_L4 (m : Nat) (i1 : Nat) (Q : Int32 → Sg → Prop) (K4 : Int32 → Int32 → Sg → Prop) (v2 : Int32) (v3 : Int32) (σ : Sg) : Prop := (((6 : Int32) ≤ v3 → Q v2 σ) ∧ (¬ (6 : Int32) ≤ v3 → (vp_in v3 6 ∧ wp_X4_hasRoomFor m i1 (σ m 1 0 2) (σ m 4 0 v3.toNatClampNeg) σ (fun r2 σ3 => ((r2 = 0 → wp_X2_flavoursTakenBy_b35 m i1 K4 Q v2 v3 σ3) ∧ (¬ r2 = 0 → ∀ z5 : Int32, z5 = (v2 ||| ((1 : Int32) <<< (v3 &&& 31))) → wp_X2_flavoursTakenBy_b35 m i1 K4 Q z5 v3 σ3))))))
def wp_X2_flavoursTakenBy_L4 (m : Nat) (i1 : Nat) (Q : Int32 → Sg → Prop) (v2 : Int32) (v3 : Int32) (σ : Sg) : Prop := ∃ n : Nat, lpN (fun (K : Int32 × Int32 × Sg → Prop) (a : Int32 × Int32 × Sg) => st_X2_flavoursTakenBy_L4 m i1 Q (fun v2 v3 σ => K (v2, v3, σ)) (a.1) (a.2.1) (a.2.2)) n (v2, v3, σ)
set_option maxRecDepth 100000 in
set_option maxHeartbeats 4000000 in
theorem gs_X2_flavoursTakenBy_L4 {X : Tx} {Q : Int32 → Sg → Prop} (C : Cx X cX2_flavoursTakenBy "SweetWraps$Machine" (some .int) 1 22 4 (QI (tE X) Q)) {m : Nat} {i1 : Nat} (hm : m < 11) (hi1 : i1 < 16) {K4 : Int32 → Int32 → Sg → Prop} (hK4 : ∀ (v2 : Int32) (v3 : Int32) (σ : Sg), K4 v2 v3 σ → G X σ [(0, .ref (ad (tE X) m 0 0)), (1, .ref (ad (tE X) m 8 i1)), (2, .int v2), (3, .int v3)] [] 4) {v2 : Int32} {v3 : Int32} {σ : Sg} (hw : st_X2_flavoursTakenBy_L4 m i1 Q K4 v2 v3 σ) : G X σ [(0, .ref (ad (tE X) m 0 0)), (1, .ref (ad (tE X) m 8 i1)), (2, .int v2), (3, .int v3)] [] 4 := by
  unfold st_X2_flavoursTakenBy_L4 at hw
  refine gx_iload_n C dX2_flavoursTakenBy_4 3 rfl ?_
  refine gx_bipush (v := (6 : Int32)) C dX2_flavoursTakenBy_5 (by decide) ?_
  refine gx_icmp_ge (tgt := 41) C dX2_flavoursTakenBy_7 (by decide) (fun c1 => ?_) (fun c1 => ?_)
  · replace hw := hw.1 c1
    refine gx_iload_n C dX2_flavoursTakenBy_41 2 rfl ?_
    exact gx_iret C rfl rfl dX2_flavoursTakenBy_42 hw
  · replace hw := hw.2 c1
    refine gx_aload_n C dX2_flavoursTakenBy_10 1 rfl ?_
    refine gx_aload_n C dX2_flavoursTakenBy_11 0 rfl ?_
    refine gx_get C (ok0 hm) rfl rfl inX2 (ref := "SweetWraps$Machine") 0 (by decide) bw_93 rfl rfl dX2_flavoursTakenBy_12 ?_
    refine gx_iconst (v := (2 : Int32)) C dX2_flavoursTakenBy_15 (by decide) ?_
    refine gx_iald C (ok1 hm) rfl (n := 4) (x := (2 : Int32)) (by unfold vp_in; decide) 2 (by decide) dX2_flavoursTakenBy_16 ?_
    refine gx_aload_n C dX2_flavoursTakenBy_17 0 rfl ?_
    refine gx_get C (ok0 hm) rfl rfl inX2 (ref := "SweetWraps$Machine") 3 (by decide) bw_98 rfl rfl dX2_flavoursTakenBy_18 ?_
    refine gx_iload_n C dX2_flavoursTakenBy_21 3 rfl ?_
    refine gx_iald C (ok4 hm) rfl hw.1 _ rfl dX2_flavoursTakenBy_22 ?_
    replace hw := hw.2
    refine gx_vcalli (As := [.int (σ m 1 0 2), .int (σ m 4 0 v3.toNatClampNeg)]) (rest := []) C (c_X4_hasRoomFor _ _ hm hi1 hw) (ok8 hm hi1) rfl rfl bw_348 bw_349 bw_350 bw_4 bw_351 hy_X4_hasRoomFor ⟨by decide, by decide⟩ rfl (Nat.le_of_ble_eq_true rfl) dX2_flavoursTakenBy_23 (fun r2 σ3 hw => ?_)
    refine gx_if_eq (tgt := 35) C dX2_flavoursTakenBy_26 (by decide) (fun c4 => ?_) (fun c4 => ?_)
    · replace hw := hw.1 c4
      exact g_X2_flavoursTakenBy_b35 C hm hi1 hK4 hw
    · replace hw := hw.2 c4
      refine gx_iload_n C dX2_flavoursTakenBy_29 2 rfl ?_
      refine gx_iconst (v := (1 : Int32)) C dX2_flavoursTakenBy_30 (by decide) ?_
      refine gx_iload_n C dX2_flavoursTakenBy_31 3 rfl ?_
      refine gx_ishl C dX2_flavoursTakenBy_32 ?_
      refine gx_ior C dX2_flavoursTakenBy_33 ?_
      obtain ⟨z5, e_z5⟩ : ∃ z : Int32, z = (v2 ||| ((1 : Int32) <<< (v3 &&& 31))) := ⟨_, rfl⟩
      replace hw := hw z5 e_z5
      refine gx_top e_z5 ?_
      refine gx_istore_n (lv' := [(2, .int z5), (0, .ref (ad (tE X) m 0 0)), (1, .ref (ad (tE X) m 8 i1)), (3, .int v3)]) C dX2_flavoursTakenBy_34 (by decide) rfl ?_
      refine gx_sub (lv' := [(0, .ref (ad (tE X) m 0 0)), (1, .ref (ad (tE X) m 8 i1)), (2, .int z5), (3, .int v3)]) [1, 2, 0, 3] rfl ?_
      exact g_X2_flavoursTakenBy_b35 C hm hi1 hK4 hw
set_option maxRecDepth 100000 in
set_option maxHeartbeats 4000000 in
theorem g_X2_flavoursTakenBy_L4 {X : Tx} {Q : Int32 → Sg → Prop} (C : Cx X cX2_flavoursTakenBy "SweetWraps$Machine" (some .int) 1 22 4 (QI (tE X) Q)) {m : Nat} {i1 : Nat} (hm : m < 11) (hi1 : i1 < 16) {v2 : Int32} {v3 : Int32} {σ : Sg} (hw : wp_X2_flavoursTakenBy_L4 m i1 Q v2 v3 σ) : G X σ [(0, .ref (ad (tE X) m 0 0)), (1, .ref (ad (tE X) m 8 i1)), (2, .int v2), (3, .int v3)] [] 4 := by
  obtain ⟨n, hw⟩ := hw
  exact lpN_G (P := (fun (a : Int32 × Int32 × Sg) => G X (a.2.2) [(0, .ref (ad (tE X) m 0 0)), (1, .ref (ad (tE X) m 8 i1)), (2, .int (a.1)), (3, .int (a.2.1))] [] 4)) (fun K a hK h => gs_X2_flavoursTakenBy_L4 C hm hi1 (fun v2 v3 σ h => hK (v2, v3, σ) h) h) n _ hw
def wp_X2_flavoursTakenBy (m : Nat) (i1 : Nat) (σ : Sg) (Q : Int32 → Sg → Prop) : Prop := wp_X2_flavoursTakenBy_L4 m i1 Q (0 : Int32) (0 : Int32) σ
set_option maxRecDepth 100000 in
set_option maxHeartbeats 4000000 in
theorem c_X2_flavoursTakenBy (l : Launch) (E : Ev) {m : Nat} {i1 : Nat} (hm : m < 11) (hi1 : i1 < 16) {σ : Sg} {Q : Int32 → Sg → Prop} (hw : wp_X2_flavoursTakenBy m i1 σ Q) : CT l E yX2_flavoursTakenBy cX2_flavoursTakenBy 4 (some .int) 1 22 [.ref (ad E m 0 0), .ref (ad E m 8 i1)] σ (QI E Q) := by
  refine CT_of (by decide) (Nat.le_of_ble_eq_true rfl) (fun X h1 h2 C => ?_)
  subst h1; subst h2
  have C : Cx X cX2_flavoursTakenBy "SweetWraps$Machine" (some .int) 1 22 4 (QI (tE X) Q) := C
  show G X σ [(0, .ref (ad (tE X) m 0 0)), (1, .ref (ad (tE X) m 8 i1))] [] 0
  unfold wp_X2_flavoursTakenBy at hw
  refine gx_iconst (v := (0 : Int32)) C dX2_flavoursTakenBy_0 (by decide) ?_
  refine gx_istore_n (lv' := [(2, .int (0 : Int32)), (0, .ref (ad (tE X) m 0 0)), (1, .ref (ad (tE X) m 8 i1))]) C dX2_flavoursTakenBy_1 (by decide) rfl ?_
  refine gx_iconst (v := (0 : Int32)) C dX2_flavoursTakenBy_2 (by decide) ?_
  refine gx_istore_n (lv' := [(3, .int (0 : Int32)), (2, .int (0 : Int32)), (0, .ref (ad (tE X) m 0 0)), (1, .ref (ad (tE X) m 8 i1))]) C dX2_flavoursTakenBy_3 (by decide) rfl ?_
  refine gx_sub (lv' := [(0, .ref (ad (tE X) m 0 0)), (1, .ref (ad (tE X) m 8 i1)), (2, .int (0 : Int32)), (3, .int (0 : Int32))]) [2, 3, 1, 0] rfl ?_
  exact g_X2_flavoursTakenBy_L4 C hm hi1 hw
theorem hy_X2_flavoursTakenBy : yX2_flavoursTakenBy.cls = "SweetWraps$Machine" ∧ yX2_flavoursTakenBy.cls ≠ "java/lang/invoke/MethodHandle" ∧ yX2_flavoursTakenBy.cls ≠ "java/lang/invoke/VarHandle" ∧ (parseMethodDescriptor yX2_flavoursTakenBy.desc).map (fun d => d.parameters.length) = some 1 := by decide +kernel

theorem dX2_tinFact_0 : decode cX2_tinFact 0 = .ok (.aload_n 0, 1) := by decide +kernel
theorem dX2_tinFact_1 : decode cX2_tinFact 1 = .ok (.iload_n 1, 1) := by decide +kernel
theorem dX2_tinFact_2 : decode cX2_tinFact 2 = .ok (.invokevirtual 77, 3) := by decide +kernel
theorem dX2_tinFact_5 : decode cX2_tinFact 5 = .ok (.ifCond .ne 5, 3) := by decide +kernel
theorem dX2_tinFact_8 : decode cX2_tinFact 8 = .ok (.iconst (-1), 1) := by decide +kernel
theorem dX2_tinFact_9 : decode cX2_tinFact 9 = .ok (.ireturn, 1) := by decide +kernel
theorem dX2_tinFact_10 : decode cX2_tinFact 10 = .ok (.iload_n 2, 1) := by decide +kernel
theorem dX2_tinFact_11 : decode cX2_tinFact 11 = .ok (.tableswitch 78 0 3 #[29, 39, 57, 67], 29) := by decide +kernel
theorem dX2_tinFact_40 : decode cX2_tinFact 40 = .ok (.aload_n 0, 1) := by decide +kernel
theorem dX2_tinFact_41 : decode cX2_tinFact 41 = .ok (.getfield 23, 3) := by decide +kernel
theorem dX2_tinFact_44 : decode cX2_tinFact 44 = .ok (.iload_n 1, 1) := by decide +kernel
theorem dX2_tinFact_45 : decode cX2_tinFact 45 = .ok (.aaload, 1) := by decide +kernel
theorem dX2_tinFact_46 : decode cX2_tinFact 46 = .ok (.getfield 85, 3) := by decide +kernel
theorem dX2_tinFact_49 : decode cX2_tinFact 49 = .ok (.ireturn, 1) := by decide +kernel
theorem dX2_tinFact_50 : decode cX2_tinFact 50 = .ok (.aload_n 0, 1) := by decide +kernel
theorem dX2_tinFact_51 : decode cX2_tinFact 51 = .ok (.getfield 23, 3) := by decide +kernel
theorem dX2_tinFact_54 : decode cX2_tinFact 54 = .ok (.iload_n 1, 1) := by decide +kernel
theorem dX2_tinFact_55 : decode cX2_tinFact 55 = .ok (.aaload, 1) := by decide +kernel
theorem dX2_tinFact_56 : decode cX2_tinFact 56 = .ok (.getfield 81, 3) := by decide +kernel
theorem dX2_tinFact_59 : decode cX2_tinFact 59 = .ok (.ifCond .eq 7, 3) := by decide +kernel
theorem dX2_tinFact_62 : decode cX2_tinFact 62 = .ok (.iconst 1, 1) := by decide +kernel
theorem dX2_tinFact_63 : decode cX2_tinFact 63 = .ok (.goto 4, 3) := by decide +kernel
theorem dX2_tinFact_66 : decode cX2_tinFact 66 = .ok (.iconst 0, 1) := by decide +kernel
theorem dX2_tinFact_67 : decode cX2_tinFact 67 = .ok (.ireturn, 1) := by decide +kernel
theorem dX2_tinFact_68 : decode cX2_tinFact 68 = .ok (.aload_n 0, 1) := by decide +kernel
theorem dX2_tinFact_69 : decode cX2_tinFact 69 = .ok (.getfield 23, 3) := by decide +kernel
theorem dX2_tinFact_72 : decode cX2_tinFact 72 = .ok (.iload_n 1, 1) := by decide +kernel
theorem dX2_tinFact_73 : decode cX2_tinFact 73 = .ok (.aaload, 1) := by decide +kernel
theorem dX2_tinFact_74 : decode cX2_tinFact 74 = .ok (.getfield 174, 3) := by decide +kernel
theorem dX2_tinFact_77 : decode cX2_tinFact 77 = .ok (.ireturn, 1) := by decide +kernel
theorem dX2_tinFact_78 : decode cX2_tinFact 78 = .ok (.aload_n 0, 1) := by decide +kernel
theorem dX2_tinFact_79 : decode cX2_tinFact 79 = .ok (.aload_n 0, 1) := by decide +kernel
theorem dX2_tinFact_80 : decode cX2_tinFact 80 = .ok (.getfield 23, 3) := by decide +kernel
theorem dX2_tinFact_83 : decode cX2_tinFact 83 = .ok (.iload_n 1, 1) := by decide +kernel
theorem dX2_tinFact_84 : decode cX2_tinFact 84 = .ok (.aaload, 1) := by decide +kernel
theorem dX2_tinFact_85 : decode cX2_tinFact 85 = .ok (.invokevirtual 176, 3) := by decide +kernel
theorem dX2_tinFact_88 : decode cX2_tinFact 88 = .ok (.ireturn, 1) := by decide +kernel
theorem dX2_tinFact_89 : decode cX2_tinFact 89 = .ok (.bipush (-2), 2) := by decide +kernel
theorem dX2_tinFact_91 : decode cX2_tinFact 91 = .ok (.ireturn, 1) := by decide +kernel
def wp_X2_tinFact (m : Nat) (x1 : Int32) (x2 : Int32) (σ : Sg) (Q : Int32 → Sg → Prop) : Prop := wp_X2_isTin m x1 σ (fun r1 σ2 => ((¬ r1 = 0 → ((x2 = (0 : Int32) → (vp_in x1 16 ∧ ∀ a9 : Nat, a9 = x1.toNatClampNeg → Q (σ2 m 8 a9 2) σ2)) ∧ (¬ x2 = (0 : Int32) → ((x2 = (1 : Int32) → (vp_in x1 16 ∧ ∀ a11 : Nat, a11 = x1.toNatClampNeg → (((σ2 m 8 a11 3) = 0 → Q (0 : Int32) σ2) ∧ (¬ (σ2 m 8 a11 3) = 0 → Q (1 : Int32) σ2)))) ∧ (¬ x2 = (1 : Int32) → ((x2 = (2 : Int32) → (vp_in x1 16 ∧ ∀ a14 : Nat, a14 = x1.toNatClampNeg → Q (σ2 m 8 a14 1) σ2)) ∧ (¬ x2 = (2 : Int32) → ((x2 = (3 : Int32) → (vp_in x1 16 ∧ ∀ a16 : Nat, a16 = x1.toNatClampNeg → wp_X2_flavoursTakenBy m a16 σ2 (fun r17 σ18 => Q r17 σ18))) ∧ (¬ x2 = (3 : Int32) → Q (-2 : Int32) σ2))))))))) ∧ (r1 = 0 → Q (-1 : Int32) σ2)))
set_option maxRecDepth 100000 in
set_option maxHeartbeats 4000000 in
theorem c_X2_tinFact (l : Launch) (E : Ev) {m : Nat} {x1 : Int32} {x2 : Int32} (hm : m < 11) {σ : Sg} {Q : Int32 → Sg → Prop} (hw : wp_X2_tinFact m x1 x2 σ Q) : CT l E yX2_tinFact cX2_tinFact 3 (some .int) 2 45 [.ref (ad E m 0 0), .int x1, .int x2] σ (QI E Q) := by
  refine CT_of (by decide) (Nat.le_of_ble_eq_true rfl) (fun X h1 h2 C => ?_)
  subst h1; subst h2
  have C : Cx X cX2_tinFact "SweetWraps$Machine" (some .int) 2 45 3 (QI (tE X) Q) := C
  show G X σ [(0, .ref (ad (tE X) m 0 0)), (1, .int x1), (2, .int x2)] [] 0
  unfold wp_X2_tinFact at hw
  refine gx_aload_n C dX2_tinFact_0 0 rfl ?_
  refine gx_iload_n C dX2_tinFact_1 1 rfl ?_
  refine gx_vcalli (As := [.int x1]) (rest := []) C (c_X2_isTin _ _ hm hw) (ok0 hm) rfl rfl bw_289 bw_291 bs_1 bw_2 bw_292 hy_X2_isTin ⟨by decide, by decide⟩ rfl (Nat.le_of_ble_eq_true rfl) dX2_tinFact_2 (fun r1 σ2 hw => ?_)
  refine gx_if_ne (tgt := 10) C dX2_tinFact_5 (by decide) (fun c3 => ?_) (fun c3 => ?_)
  · replace hw := hw.1 c3
    refine gx_iload_n C dX2_tinFact_10 2 rfl ?_
    by_cases c4 : x2 = (0 : Int32)
    · replace hw := hw.1 c4
      refine gx_table (tgt := 40) (off := 29) C dX2_tinFact_11 (0 : Int32) c4 (by decide) (by decide) rfl (by decide) ?_
      refine gx_aload_n C dX2_tinFact_40 0 rfl ?_
      refine gx_get C (ok0 hm) rfl rfl inX2 (ref := "SweetWraps$Machine") 2 (by decide) bw_97 rfl rfl dX2_tinFact_41 ?_
      refine gx_iload_n C dX2_tinFact_44 1 rfl ?_
      have h8 := hw.1
      replace hw := hw.2
      obtain ⟨a9, e_a9⟩ : ∃ z : Nat, z = x1.toNatClampNeg := ⟨_, rfl⟩
      replace hw := hw a9 e_a9
      have ha9 : a9 < 16 := by rw [e_a9]; exact vp_lt h8
      refine gx_aald C (ok3 hm) rfl (t0 := 4) rfl h8 (v := .ref (ad (tE X) m 8 a9)) (by rw [e_a9]; rfl) dX2_tinFact_45 ?_
      refine gx_get C (ok8 hm ha9) rfl rfl inX4 (ref := "SweetWraps$Tin") 2 (by decide) bw_81 rfl rfl dX2_tinFact_46 ?_
      exact gx_iret C rfl rfl dX2_tinFact_49 hw
    · replace hw := hw.2 c4
      by_cases c5 : x2 = (1 : Int32)
      · replace hw := hw.1 c5
        refine gx_table (tgt := 50) (off := 39) C dX2_tinFact_11 (1 : Int32) c5 (by decide) (by decide) rfl (by decide) ?_
        refine gx_aload_n C dX2_tinFact_50 0 rfl ?_
        refine gx_get C (ok0 hm) rfl rfl inX2 (ref := "SweetWraps$Machine") 2 (by decide) bw_97 rfl rfl dX2_tinFact_51 ?_
        refine gx_iload_n C dX2_tinFact_54 1 rfl ?_
        have h10 := hw.1
        replace hw := hw.2
        obtain ⟨a11, e_a11⟩ : ∃ z : Nat, z = x1.toNatClampNeg := ⟨_, rfl⟩
        replace hw := hw a11 e_a11
        have ha11 : a11 < 16 := by rw [e_a11]; exact vp_lt h10
        refine gx_aald C (ok3 hm) rfl (t0 := 4) rfl h10 (v := .ref (ad (tE X) m 8 a11)) (by rw [e_a11]; rfl) dX2_tinFact_55 ?_
        refine gx_get C (ok8 hm ha11) rfl rfl inX4 (ref := "SweetWraps$Tin") 3 (by decide) bw_83 rfl rfl dX2_tinFact_56 ?_
        refine gx_if_eq (tgt := 66) C dX2_tinFact_59 (by decide) (fun c12 => ?_) (fun c12 => ?_)
        · replace hw := hw.1 c12
          refine gx_iconst (v := (0 : Int32)) C dX2_tinFact_66 (by decide) ?_
          exact gx_iret C rfl rfl dX2_tinFact_67 hw
        · replace hw := hw.2 c12
          refine gx_iconst (v := (1 : Int32)) C dX2_tinFact_62 (by decide) ?_
          refine gx_goto (tgt := 67) C dX2_tinFact_63 (by decide) ?_
          exact gx_iret C rfl rfl dX2_tinFact_67 hw
      · replace hw := hw.2 c5
        by_cases c6 : x2 = (2 : Int32)
        · replace hw := hw.1 c6
          refine gx_table (tgt := 68) (off := 57) C dX2_tinFact_11 (2 : Int32) c6 (by decide) (by decide) rfl (by decide) ?_
          refine gx_aload_n C dX2_tinFact_68 0 rfl ?_
          refine gx_get C (ok0 hm) rfl rfl inX2 (ref := "SweetWraps$Machine") 2 (by decide) bw_97 rfl rfl dX2_tinFact_69 ?_
          refine gx_iload_n C dX2_tinFact_72 1 rfl ?_
          have h13 := hw.1
          replace hw := hw.2
          obtain ⟨a14, e_a14⟩ : ∃ z : Nat, z = x1.toNatClampNeg := ⟨_, rfl⟩
          replace hw := hw a14 e_a14
          have ha14 : a14 < 16 := by rw [e_a14]; exact vp_lt h13
          refine gx_aald C (ok3 hm) rfl (t0 := 4) rfl h13 (v := .ref (ad (tE X) m 8 a14)) (by rw [e_a14]; rfl) dX2_tinFact_73 ?_
          refine gx_get C (ok8 hm ha14) rfl rfl inX4 (ref := "SweetWraps$Tin") 1 (by decide) bw_79 rfl rfl dX2_tinFact_74 ?_
          exact gx_iret C rfl rfl dX2_tinFact_77 hw
        · replace hw := hw.2 c6
          by_cases c7 : x2 = (3 : Int32)
          · replace hw := hw.1 c7
            refine gx_table (tgt := 78) (off := 67) C dX2_tinFact_11 (3 : Int32) c7 (by decide) (by decide) rfl (by decide) ?_
            refine gx_aload_n C dX2_tinFact_78 0 rfl ?_
            refine gx_aload_n C dX2_tinFact_79 0 rfl ?_
            refine gx_get C (ok0 hm) rfl rfl inX2 (ref := "SweetWraps$Machine") 2 (by decide) bw_97 rfl rfl dX2_tinFact_80 ?_
            refine gx_iload_n C dX2_tinFact_83 1 rfl ?_
            have h15 := hw.1
            replace hw := hw.2
            obtain ⟨a16, e_a16⟩ : ∃ z : Nat, z = x1.toNatClampNeg := ⟨_, rfl⟩
            replace hw := hw a16 e_a16
            have ha16 : a16 < 16 := by rw [e_a16]; exact vp_lt h15
            refine gx_aald C (ok3 hm) rfl (t0 := 4) rfl h15 (v := .ref (ad (tE X) m 8 a16)) (by rw [e_a16]; rfl) dX2_tinFact_84 ?_
            refine gx_vcalli (As := [.ref (ad (tE X) m 8 a16)]) (rest := []) C (c_X2_flavoursTakenBy _ _ hm ha16 hw) (ok0 hm) rfl rfl bw_399 bw_401 bs_10 bw_2 bw_402 hy_X2_flavoursTakenBy ⟨by decide, by decide⟩ rfl (Nat.le_of_ble_eq_true rfl) dX2_tinFact_85 (fun r17 σ18 hw => ?_)
            exact gx_iret C rfl rfl dX2_tinFact_88 hw
          · replace hw := hw.2 c7
            refine gx_tableD (tgt := 89) C dX2_tinFact_11 (by decide) [((29 : Int), (0 : Nat)), ((39 : Int), (1 : Nat)), ((57 : Int), (2 : Nat)), ((67 : Int), (3 : Nat))] rfl (List.forall_mem_cons.mpr ⟨Or.inr ⟨(0 : Int32), c4, by decide⟩, List.forall_mem_cons.mpr ⟨Or.inr ⟨(1 : Int32), c5, by decide⟩, List.forall_mem_cons.mpr ⟨Or.inr ⟨(2 : Int32), c6, by decide⟩, List.forall_mem_cons.mpr ⟨Or.inr ⟨(3 : Int32), c7, by decide⟩, fun _ h => absurd h List.not_mem_nil⟩⟩⟩⟩) (by decide) ?_
            refine gx_bipush (v := (-2 : Int32)) C dX2_tinFact_89 (by decide) ?_
            exact gx_iret C rfl rfl dX2_tinFact_91 hw
  · replace hw := hw.2 c3
    refine gx_iconst (v := (-1 : Int32)) C dX2_tinFact_8 (by decide) ?_
    exact gx_iret C rfl rfl dX2_tinFact_9 hw
theorem hy_X2_tinFact : yX2_tinFact.cls = "SweetWraps$Machine" ∧ yX2_tinFact.cls ≠ "java/lang/invoke/MethodHandle" ∧ yX2_tinFact.cls ≠ "java/lang/invoke/VarHandle" ∧ (parseMethodDescriptor yX2_tinFact.desc).map (fun d => d.parameters.length) = some 2 := by decide +kernel

theorem dX2_sweetsInTin_0 : decode cX2_sweetsInTin 0 = .ok (.aload_n 0, 1) := by decide +kernel
theorem dX2_sweetsInTin_1 : decode cX2_sweetsInTin 1 = .ok (.iload_n 1, 1) := by decide +kernel
theorem dX2_sweetsInTin_2 : decode cX2_sweetsInTin 2 = .ok (.invokevirtual 77, 3) := by decide +kernel
theorem dX2_sweetsInTin_5 : decode cX2_sweetsInTin 5 = .ok (.ifCond .eq 12, 3) := by decide +kernel
theorem dX2_sweetsInTin_8 : decode cX2_sweetsInTin 8 = .ok (.iload_n 2, 1) := by decide +kernel
theorem dX2_sweetsInTin_9 : decode cX2_sweetsInTin 9 = .ok (.bipush 6, 2) := by decide +kernel
theorem dX2_sweetsInTin_11 : decode cX2_sweetsInTin 11 = .ok (.invokestatic 56, 3) := by decide +kernel
theorem dX2_sweetsInTin_14 : decode cX2_sweetsInTin 14 = .ok (.ifCond .ne 5, 3) := by decide +kernel
theorem dX2_sweetsInTin_17 : decode cX2_sweetsInTin 17 = .ok (.iconst (-1), 1) := by decide +kernel
theorem dX2_sweetsInTin_18 : decode cX2_sweetsInTin 18 = .ok (.ireturn, 1) := by decide +kernel
theorem dX2_sweetsInTin_19 : decode cX2_sweetsInTin 19 = .ok (.aload_n 0, 1) := by decide +kernel
theorem dX2_sweetsInTin_20 : decode cX2_sweetsInTin 20 = .ok (.getfield 23, 3) := by decide +kernel
theorem dX2_sweetsInTin_23 : decode cX2_sweetsInTin 23 = .ok (.iload_n 1, 1) := by decide +kernel
theorem dX2_sweetsInTin_24 : decode cX2_sweetsInTin 24 = .ok (.aaload, 1) := by decide +kernel
theorem dX2_sweetsInTin_25 : decode cX2_sweetsInTin 25 = .ok (.getfield 180, 3) := by decide +kernel
theorem dX2_sweetsInTin_28 : decode cX2_sweetsInTin 28 = .ok (.iload_n 2, 1) := by decide +kernel
theorem dX2_sweetsInTin_29 : decode cX2_sweetsInTin 29 = .ok (.iaload, 1) := by decide +kernel
theorem dX2_sweetsInTin_30 : decode cX2_sweetsInTin 30 = .ok (.ireturn, 1) := by decide +kernel
def wp_X2_sweetsInTin (m : Nat) (x1 : Int32) (x2 : Int32) (σ : Sg) (Q : Int32 → Sg → Prop) : Prop := wp_X2_isTin m x1 σ (fun r1 σ2 => ((r1 = 0 → Q (-1 : Int32) σ2) ∧ (¬ r1 = 0 → wp_X5_isIndex x2 (6 : Int32) σ2 (fun r4 σ5 => ((¬ r4 = 0 → (vp_in x1 16 ∧ ∀ a8 : Nat, a8 = x1.toNatClampNeg → (vp_in x2 6 ∧ Q (σ5 m 9 a8 x2.toNatClampNeg) σ5))) ∧ (r4 = 0 → Q (-1 : Int32) σ5))))))
set_option maxRecDepth 100000 in
set_option maxHeartbeats 4000000 in
theorem c_X2_sweetsInTin (l : Launch) (E : Ev) {m : Nat} {x1 : Int32} {x2 : Int32} (hm : m < 11) {σ : Sg} {Q : Int32 → Sg → Prop} (hw : wp_X2_sweetsInTin m x1 x2 σ Q) : CT l E yX2_sweetsInTin cX2_sweetsInTin 3 (some .int) 2 42 [.ref (ad E m 0 0), .int x1, .int x2] σ (QI E Q) := by
  refine CT_of (by decide) (Nat.le_of_ble_eq_true rfl) (fun X h1 h2 C => ?_)
  subst h1; subst h2
  have C : Cx X cX2_sweetsInTin "SweetWraps$Machine" (some .int) 2 42 3 (QI (tE X) Q) := C
  show G X σ [(0, .ref (ad (tE X) m 0 0)), (1, .int x1), (2, .int x2)] [] 0
  unfold wp_X2_sweetsInTin at hw
  refine gx_aload_n C dX2_sweetsInTin_0 0 rfl ?_
  refine gx_iload_n C dX2_sweetsInTin_1 1 rfl ?_
  refine gx_vcalli (As := [.int x1]) (rest := []) C (c_X2_isTin _ _ hm hw) (ok0 hm) rfl rfl bw_289 bw_291 bs_1 bw_2 bw_292 hy_X2_isTin ⟨by decide, by decide⟩ rfl (Nat.le_of_ble_eq_true rfl) dX2_sweetsInTin_2 (fun r1 σ2 hw => ?_)
  refine gx_if_eq (tgt := 17) C dX2_sweetsInTin_5 (by decide) (fun c3 => ?_) (fun c3 => ?_)
  · replace hw := hw.1 c3
    refine gx_iconst (v := (-1 : Int32)) C dX2_sweetsInTin_17 (by decide) ?_
    exact gx_iret C rfl rfl dX2_sweetsInTin_18 hw
  · replace hw := hw.2 c3
    refine gx_iload_n C dX2_sweetsInTin_8 2 rfl ?_
    refine gx_bipush (v := (6 : Int32)) C dX2_sweetsInTin_9 (by decide) ?_
    refine gx_ncalli (As := [.int x2, .int (6 : Int32)]) (rest := []) (host := "SweetWraps") C (c_X5_isIndex _ _ hw) (nest_in _ (by decide +kernel)) bw_226 bw_1 bw_227 hyS_X5_isIndex ⟨by decide, by decide⟩ rfl (Nat.le_of_ble_eq_true rfl) dX2_sweetsInTin_11 (fun r4 σ5 hw => ?_)
    refine gx_if_ne (tgt := 19) C dX2_sweetsInTin_14 (by decide) (fun c6 => ?_) (fun c6 => ?_)
    · replace hw := hw.1 c6
      refine gx_aload_n C dX2_sweetsInTin_19 0 rfl ?_
      refine gx_get C (ok0 hm) rfl rfl inX2 (ref := "SweetWraps$Machine") 2 (by decide) bw_97 rfl rfl dX2_sweetsInTin_20 ?_
      refine gx_iload_n C dX2_sweetsInTin_23 1 rfl ?_
      have h7 := hw.1
      replace hw := hw.2
      obtain ⟨a8, e_a8⟩ : ∃ z : Nat, z = x1.toNatClampNeg := ⟨_, rfl⟩
      replace hw := hw a8 e_a8
      have ha8 : a8 < 16 := by rw [e_a8]; exact vp_lt h7
      refine gx_aald C (ok3 hm) rfl (t0 := 4) rfl h7 (v := .ref (ad (tE X) m 8 a8)) (by rw [e_a8]; rfl) dX2_sweetsInTin_24 ?_
      refine gx_get C (ok8 hm ha8) rfl rfl inX4 (ref := "SweetWraps$Tin") 0 (by decide) bw_77 rfl rfl dX2_sweetsInTin_25 ?_
      refine gx_iload_n C dX2_sweetsInTin_28 2 rfl ?_
      refine gx_iald C (ok9 hm ha8) rfl hw.1 _ rfl dX2_sweetsInTin_29 ?_
      replace hw := hw.2
      exact gx_iret C rfl rfl dX2_sweetsInTin_30 hw
    · replace hw := hw.2 c6
      refine gx_iconst (v := (-1 : Int32)) C dX2_sweetsInTin_17 (by decide) ?_
      exact gx_iret C rfl rfl dX2_sweetsInTin_18 hw
theorem hy_X2_sweetsInTin : yX2_sweetsInTin.cls = "SweetWraps$Machine" ∧ yX2_sweetsInTin.cls ≠ "java/lang/invoke/MethodHandle" ∧ yX2_sweetsInTin.cls ≠ "java/lang/invoke/VarHandle" ∧ (parseMethodDescriptor yX2_sweetsInTin.desc).map (fun d => d.parameters.length) = some 2 := by decide +kernel

theorem dX2_tinsThatAre_0 : decode cX2_tinsThatAre 0 = .ok (.iconst 0, 1) := by decide +kernel
theorem dX2_tinsThatAre_1 : decode cX2_tinsThatAre 1 = .ok (.istore_n 2, 1) := by decide +kernel
theorem dX2_tinsThatAre_2 : decode cX2_tinsThatAre 2 = .ok (.iconst 0, 1) := by decide +kernel
theorem dX2_tinsThatAre_3 : decode cX2_tinsThatAre 3 = .ok (.istore_n 3, 1) := by decide +kernel
theorem dX2_tinsThatAre_4 : decode cX2_tinsThatAre 4 = .ok (.iload_n 3, 1) := by decide +kernel
theorem dX2_tinsThatAre_5 : decode cX2_tinsThatAre 5 = .ok (.bipush 16, 2) := by decide +kernel
theorem dX2_tinsThatAre_7 : decode cX2_tinsThatAre 7 = .ok (.if_icmp .ge 36, 3) := by decide +kernel
theorem dX2_tinsThatAre_10 : decode cX2_tinsThatAre 10 = .ok (.aload_n 0, 1) := by decide +kernel
theorem dX2_tinsThatAre_11 : decode cX2_tinsThatAre 11 = .ok (.iload_n 3, 1) := by decide +kernel
theorem dX2_tinsThatAre_12 : decode cX2_tinsThatAre 12 = .ok (.invokevirtual 77, 3) := by decide +kernel
theorem dX2_tinsThatAre_15 : decode cX2_tinsThatAre 15 = .ok (.ifCond .eq 22, 3) := by decide +kernel
theorem dX2_tinsThatAre_18 : decode cX2_tinsThatAre 18 = .ok (.aload_n 0, 1) := by decide +kernel
theorem dX2_tinsThatAre_19 : decode cX2_tinsThatAre 19 = .ok (.getfield 23, 3) := by decide +kernel
theorem dX2_tinsThatAre_22 : decode cX2_tinsThatAre 22 = .ok (.iload_n 3, 1) := by decide +kernel
theorem dX2_tinsThatAre_23 : decode cX2_tinsThatAre 23 = .ok (.aaload, 1) := by decide +kernel
theorem dX2_tinsThatAre_24 : decode cX2_tinsThatAre 24 = .ok (.getfield 81, 3) := by decide +kernel
theorem dX2_tinsThatAre_27 : decode cX2_tinsThatAre 27 = .ok (.iload_n 1, 1) := by decide +kernel
theorem dX2_tinsThatAre_28 : decode cX2_tinsThatAre 28 = .ok (.if_icmp .ne 9, 3) := by decide +kernel
theorem dX2_tinsThatAre_31 : decode cX2_tinsThatAre 31 = .ok (.iload_n 2, 1) := by decide +kernel
theorem dX2_tinsThatAre_32 : decode cX2_tinsThatAre 32 = .ok (.iconst 1, 1) := by decide +kernel
theorem dX2_tinsThatAre_33 : decode cX2_tinsThatAre 33 = .ok (.iload_n 3, 1) := by decide +kernel
theorem dX2_tinsThatAre_34 : decode cX2_tinsThatAre 34 = .ok (.ishl, 1) := by decide +kernel
theorem dX2_tinsThatAre_35 : decode cX2_tinsThatAre 35 = .ok (.ior, 1) := by decide +kernel
theorem dX2_tinsThatAre_36 : decode cX2_tinsThatAre 36 = .ok (.istore_n 2, 1) := by decide +kernel
theorem dX2_tinsThatAre_37 : decode cX2_tinsThatAre 37 = .ok (.iinc 3 1, 3) := by decide +kernel
theorem dX2_tinsThatAre_40 : decode cX2_tinsThatAre 40 = .ok (.goto (-36), 3) := by decide +kernel
theorem dX2_tinsThatAre_43 : decode cX2_tinsThatAre 43 = .ok (.iload_n 2, 1) := by decide +kernel
theorem dX2_tinsThatAre_44 : decode cX2_tinsThatAre 44 = .ok (.ireturn, 1) := by decide +kernel
def wp_X2_tinsThatAre_b37 (m : Nat) (x1 : Int32) (K4 : Int32 → Int32 → Sg → Prop) (Q : Int32 → Sg → Prop) (v2 : Int32) (v3 : Int32) (σ : Sg) : Prop := ∀ z9 : Int32, z9 = v3 + (1 : Int32) → K4 v2 z9 σ
set_option maxRecDepth 100000 in
set_option maxHeartbeats 4000000 in
theorem g_X2_tinsThatAre_b37 {X : Tx} {Q : Int32 → Sg → Prop} (C : Cx X cX2_tinsThatAre "SweetWraps$Machine" (some .int) 2 42 4 (QI (tE X) Q)) {m : Nat} {x1 : Int32} (hm : m < 11) {K4 : Int32 → Int32 → Sg → Prop} (hK4 : ∀ (v2 : Int32) (v3 : Int32) (σ : Sg), K4 v2 v3 σ → G X σ [(0, .ref (ad (tE X) m 0 0)), (1, .int x1), (2, .int v2), (3, .int v3)] [] 4) {v2 : Int32} {v3 : Int32} {σ : Sg} (hw : wp_X2_tinsThatAre_b37 m x1 K4 Q v2 v3 σ) : G X σ [(0, .ref (ad (tE X) m 0 0)), (1, .int x1), (2, .int v2), (3, .int v3)] [] 37 := by
  unfold wp_X2_tinsThatAre_b37 at hw
  obtain ⟨z9, e_z9⟩ : ∃ z : Int32, z = v3 + (1 : Int32) := ⟨_, rfl⟩
  replace hw := hw z9 e_z9
  refine gx_iinc (v := z9) (lv' := [(3, .int z9), (0, .ref (ad (tE X) m 0 0)), (1, .int x1), (2, .int v2)]) C dX2_tinsThatAre_37 3 rfl (by rw [e_z9]; rfl) (by decide) rfl ?_
  refine gx_goto (tgt := 4) C dX2_tinsThatAre_40 (by decide) ?_
  refine gx_sub (lv' := [(0, .ref (ad (tE X) m 0 0)), (1, .int x1), (2, .int v2), (3, .int z9)]) [1, 2, 3, 0] rfl ?_
  exact hK4 _ _ _ hw
def st_X2_tinsThatAre_L4 (m : Nat) (x1 : Int32) (Q : Int32 → Sg → Prop) (K4 : Int32 → Int32 → Sg → Prop) (v2 : Int32) (v3 : Int32) (σ : Sg) : Prop := (((16 : Int32) ≤ v3 → Q v2 σ) ∧ (¬ (16 : Int32) ≤ v3 → wp_X2_isTin m v3 σ (fun r2 σ3 => ((r2 = 0 → wp_X2_tinsThatAre_b37 m x1 K4 Q v2 v3 σ3) ∧ (¬ r2 = 0 → (vp_in v3 16 ∧ ∀ a6 : Nat, a6 = v3.toNatClampNeg → ((¬ (σ3 m 8 a6 3) = x1 → wp_X2_tinsThatAre_b37 m x1 K4 Q v2 v3 σ3) ∧ ((σ3 m 8 a6 3) = x1 → ∀ z8 : Int32, z8 = (v2 ||| ((1 : Int32) <<< (v3 &&& 31))) → wp_X2_tinsThatAre_b37 m x1 K4 Q z8 v3 σ3))))))))
def wp_X2_tinsThatAre_L4 (m : Nat) (x1 : Int32) (Q : Int32 → Sg → Prop) (v2 : Int32) (v3 : Int32) (σ : Sg) : Prop := ∃ n : Nat, lpN (fun (K : Int32 × Int32 × Sg → Prop) (a : Int32 × Int32 × Sg) => st_X2_tinsThatAre_L4 m x1 Q (fun v2 v3 σ => K (v2, v3, σ)) (a.1) (a.2.1) (a.2.2)) n (v2, v3, σ)
set_option maxRecDepth 100000 in
set_option maxHeartbeats 4000000 in
theorem gs_X2_tinsThatAre_L4 {X : Tx} {Q : Int32 → Sg → Prop} (C : Cx X cX2_tinsThatAre "SweetWraps$Machine" (some .int) 2 42 4 (QI (tE X) Q)) {m : Nat} {x1 : Int32} (hm : m < 11) {K4 : Int32 → Int32 → Sg → Prop} (hK4 : ∀ (v2 : Int32) (v3 : Int32) (σ : Sg), K4 v2 v3 σ → G X σ [(0, .ref (ad (tE X) m 0 0)), (1, .int x1), (2, .int v2), (3, .int v3)] [] 4) {v2 : Int32} {v3 : Int32} {σ : Sg} (hw : st_X2_tinsThatAre_L4 m x1 Q K4 v2 v3 σ) : G X σ [(0, .ref (ad (tE X) m 0 0)), (1, .int x1), (2, .int v2), (3, .int v3)] [] 4 := by
  unfold st_X2_tinsThatAre_L4 at hw
  refine gx_iload_n C dX2_tinsThatAre_4 3 rfl ?_
  refine gx_bipush (v := (16 : Int32)) C dX2_tinsThatAre_5 (by decide) ?_
  refine gx_icmp_ge (tgt := 43) C dX2_tinsThatAre_7 (by decide) (fun c1 => ?_) (fun c1 => ?_)
  · replace hw := hw.1 c1
    refine gx_iload_n C dX2_tinsThatAre_43 2 rfl ?_
    exact gx_iret C rfl rfl dX2_tinsThatAre_44 hw
  · replace hw := hw.2 c1
    refine gx_aload_n C dX2_tinsThatAre_10 0 rfl ?_
    refine gx_iload_n C dX2_tinsThatAre_11 3 rfl ?_
    refine gx_vcalli (As := [.int v3]) (rest := []) C (c_X2_isTin _ _ hm hw) (ok0 hm) rfl rfl bw_289 bw_291 bs_1 bw_2 bw_292 hy_X2_isTin ⟨by decide, by decide⟩ rfl (Nat.le_of_ble_eq_true rfl) dX2_tinsThatAre_12 (fun r2 σ3 hw => ?_)
    refine gx_if_eq (tgt := 37) C dX2_tinsThatAre_15 (by decide) (fun c4 => ?_) (fun c4 => ?_)
    · replace hw := hw.1 c4
      exact g_X2_tinsThatAre_b37 C hm hK4 hw
    · replace hw := hw.2 c4
      refine gx_aload_n C dX2_tinsThatAre_18 0 rfl ?_
      refine gx_get C (ok0 hm) rfl rfl inX2 (ref := "SweetWraps$Machine") 2 (by decide) bw_97 rfl rfl dX2_tinsThatAre_19 ?_
      refine gx_iload_n C dX2_tinsThatAre_22 3 rfl ?_
      have h5 := hw.1
      replace hw := hw.2
      obtain ⟨a6, e_a6⟩ : ∃ z : Nat, z = v3.toNatClampNeg := ⟨_, rfl⟩
      replace hw := hw a6 e_a6
      have ha6 : a6 < 16 := by rw [e_a6]; exact vp_lt h5
      refine gx_aald C (ok3 hm) rfl (t0 := 4) rfl h5 (v := .ref (ad (tE X) m 8 a6)) (by rw [e_a6]; rfl) dX2_tinsThatAre_23 ?_
      refine gx_get C (ok8 hm ha6) rfl rfl inX4 (ref := "SweetWraps$Tin") 3 (by decide) bw_83 rfl rfl dX2_tinsThatAre_24 ?_
      refine gx_iload_n C dX2_tinsThatAre_27 1 rfl ?_
      refine gx_icmp_ne (tgt := 37) C dX2_tinsThatAre_28 (by decide) (fun c7 => ?_) (fun c7 => ?_)
      · replace hw := hw.1 c7
        exact g_X2_tinsThatAre_b37 C hm hK4 hw
      · replace hw := hw.2 c7
        refine gx_iload_n C dX2_tinsThatAre_31 2 rfl ?_
        refine gx_iconst (v := (1 : Int32)) C dX2_tinsThatAre_32 (by decide) ?_
        refine gx_iload_n C dX2_tinsThatAre_33 3 rfl ?_
        refine gx_ishl C dX2_tinsThatAre_34 ?_
        refine gx_ior C dX2_tinsThatAre_35 ?_
        obtain ⟨z8, e_z8⟩ : ∃ z : Int32, z = (v2 ||| ((1 : Int32) <<< (v3 &&& 31))) := ⟨_, rfl⟩
        replace hw := hw z8 e_z8
        refine gx_top e_z8 ?_
        refine gx_istore_n (lv' := [(2, .int z8), (0, .ref (ad (tE X) m 0 0)), (1, .int x1), (3, .int v3)]) C dX2_tinsThatAre_36 (by decide) rfl ?_
        refine gx_sub (lv' := [(0, .ref (ad (tE X) m 0 0)), (1, .int x1), (2, .int z8), (3, .int v3)]) [1, 2, 0, 3] rfl ?_
        exact g_X2_tinsThatAre_b37 C hm hK4 hw
set_option maxRecDepth 100000 in
set_option maxHeartbeats 4000000 in
theorem g_X2_tinsThatAre_L4 {X : Tx} {Q : Int32 → Sg → Prop} (C : Cx X cX2_tinsThatAre "SweetWraps$Machine" (some .int) 2 42 4 (QI (tE X) Q)) {m : Nat} {x1 : Int32} (hm : m < 11) {v2 : Int32} {v3 : Int32} {σ : Sg} (hw : wp_X2_tinsThatAre_L4 m x1 Q v2 v3 σ) : G X σ [(0, .ref (ad (tE X) m 0 0)), (1, .int x1), (2, .int v2), (3, .int v3)] [] 4 := by
  obtain ⟨n, hw⟩ := hw
  exact lpN_G (P := (fun (a : Int32 × Int32 × Sg) => G X (a.2.2) [(0, .ref (ad (tE X) m 0 0)), (1, .int x1), (2, .int (a.1)), (3, .int (a.2.1))] [] 4)) (fun K a hK h => gs_X2_tinsThatAre_L4 C hm (fun v2 v3 σ h => hK (v2, v3, σ) h) h) n _ hw
def wp_X2_tinsThatAre (m : Nat) (x1 : Int32) (σ : Sg) (Q : Int32 → Sg → Prop) : Prop := wp_X2_tinsThatAre_L4 m x1 Q (0 : Int32) (0 : Int32) σ
set_option maxRecDepth 100000 in
set_option maxHeartbeats 4000000 in
theorem c_X2_tinsThatAre (l : Launch) (E : Ev) {m : Nat} {x1 : Int32} (hm : m < 11) {σ : Sg} {Q : Int32 → Sg → Prop} (hw : wp_X2_tinsThatAre m x1 σ Q) : CT l E yX2_tinsThatAre cX2_tinsThatAre 4 (some .int) 2 42 [.ref (ad E m 0 0), .int x1] σ (QI E Q) := by
  refine CT_of (by decide) (Nat.le_of_ble_eq_true rfl) (fun X h1 h2 C => ?_)
  subst h1; subst h2
  have C : Cx X cX2_tinsThatAre "SweetWraps$Machine" (some .int) 2 42 4 (QI (tE X) Q) := C
  show G X σ [(0, .ref (ad (tE X) m 0 0)), (1, .int x1)] [] 0
  unfold wp_X2_tinsThatAre at hw
  refine gx_iconst (v := (0 : Int32)) C dX2_tinsThatAre_0 (by decide) ?_
  refine gx_istore_n (lv' := [(2, .int (0 : Int32)), (0, .ref (ad (tE X) m 0 0)), (1, .int x1)]) C dX2_tinsThatAre_1 (by decide) rfl ?_
  refine gx_iconst (v := (0 : Int32)) C dX2_tinsThatAre_2 (by decide) ?_
  refine gx_istore_n (lv' := [(3, .int (0 : Int32)), (2, .int (0 : Int32)), (0, .ref (ad (tE X) m 0 0)), (1, .int x1)]) C dX2_tinsThatAre_3 (by decide) rfl ?_
  refine gx_sub (lv' := [(0, .ref (ad (tE X) m 0 0)), (1, .int x1), (2, .int (0 : Int32)), (3, .int (0 : Int32))]) [2, 3, 1, 0] rfl ?_
  exact g_X2_tinsThatAre_L4 C hm hw
theorem hy_X2_tinsThatAre : yX2_tinsThatAre.cls = "SweetWraps$Machine" ∧ yX2_tinsThatAre.cls ≠ "java/lang/invoke/MethodHandle" ∧ yX2_tinsThatAre.cls ≠ "java/lang/invoke/VarHandle" ∧ (parseMethodDescriptor yX2_tinsThatAre.desc).map (fun d => d.parameters.length) = some 1 := by decide +kernel

theorem dX2_sweetsInTins_0 : decode cX2_sweetsInTins 0 = .ok (.iconst 0, 1) := by decide +kernel
theorem dX2_sweetsInTins_1 : decode cX2_sweetsInTins 1 = .ok (.istore_n 3, 1) := by decide +kernel
theorem dX2_sweetsInTins_2 : decode cX2_sweetsInTins 2 = .ok (.iconst 0, 1) := by decide +kernel
theorem dX2_sweetsInTins_3 : decode cX2_sweetsInTins 3 = .ok (.istore 4, 2) := by decide +kernel
theorem dX2_sweetsInTins_5 : decode cX2_sweetsInTins 5 = .ok (.iload 4, 2) := by decide +kernel
theorem dX2_sweetsInTins_7 : decode cX2_sweetsInTins 7 = .ok (.bipush 16, 2) := by decide +kernel
theorem dX2_sweetsInTins_9 : decode cX2_sweetsInTins 9 = .ok (.if_icmp .ge 38, 3) := by decide +kernel
theorem dX2_sweetsInTins_12 : decode cX2_sweetsInTins 12 = .ok (.aload_n 0, 1) := by decide +kernel
theorem dX2_sweetsInTins_13 : decode cX2_sweetsInTins 13 = .ok (.getfield 23, 3) := by decide +kernel
theorem dX2_sweetsInTins_16 : decode cX2_sweetsInTins 16 = .ok (.iload 4, 2) := by decide +kernel
theorem dX2_sweetsInTins_18 : decode cX2_sweetsInTins 18 = .ok (.aaload, 1) := by decide +kernel
theorem dX2_sweetsInTins_19 : decode cX2_sweetsInTins 19 = .ok (.getfield 81, 3) := by decide +kernel
theorem dX2_sweetsInTins_22 : decode cX2_sweetsInTins 22 = .ok (.iload_n 2, 1) := by decide +kernel
theorem dX2_sweetsInTins_23 : decode cX2_sweetsInTins 23 = .ok (.if_icmp .ne 18, 3) := by decide +kernel
theorem dX2_sweetsInTins_26 : decode cX2_sweetsInTins 26 = .ok (.iload_n 3, 1) := by decide +kernel
theorem dX2_sweetsInTins_27 : decode cX2_sweetsInTins 27 = .ok (.aload_n 0, 1) := by decide +kernel
theorem dX2_sweetsInTins_28 : decode cX2_sweetsInTins 28 = .ok (.getfield 23, 3) := by decide +kernel
theorem dX2_sweetsInTins_31 : decode cX2_sweetsInTins 31 = .ok (.iload 4, 2) := by decide +kernel
theorem dX2_sweetsInTins_33 : decode cX2_sweetsInTins 33 = .ok (.aaload, 1) := by decide +kernel
theorem dX2_sweetsInTins_34 : decode cX2_sweetsInTins 34 = .ok (.getfield 180, 3) := by decide +kernel
theorem dX2_sweetsInTins_37 : decode cX2_sweetsInTins 37 = .ok (.iload_n 1, 1) := by decide +kernel
theorem dX2_sweetsInTins_38 : decode cX2_sweetsInTins 38 = .ok (.iaload, 1) := by decide +kernel
theorem dX2_sweetsInTins_39 : decode cX2_sweetsInTins 39 = .ok (.iadd, 1) := by decide +kernel
theorem dX2_sweetsInTins_40 : decode cX2_sweetsInTins 40 = .ok (.istore_n 3, 1) := by decide +kernel
theorem dX2_sweetsInTins_41 : decode cX2_sweetsInTins 41 = .ok (.iinc 4 1, 3) := by decide +kernel
theorem dX2_sweetsInTins_44 : decode cX2_sweetsInTins 44 = .ok (.goto (-39), 3) := by decide +kernel
theorem dX2_sweetsInTins_47 : decode cX2_sweetsInTins 47 = .ok (.iload_n 3, 1) := by decide +kernel
theorem dX2_sweetsInTins_48 : decode cX2_sweetsInTins 48 = .ok (.ireturn, 1) := by decide +kernel
def wp_X2_sweetsInTins_b41 (m : Nat) (x1 : Int32) (x2 : Int32) (K5 : Int32 → Int32 → Sg → Prop) (Q : Int32 → Sg → Prop) (v3 : Int32) (v4 : Int32) (σ : Sg) : Prop := ∀ z8 : Int32, z8 = v4 + (1 : Int32) → K5 v3 z8 σ
set_option maxRecDepth 100000 in
set_option maxHeartbeats 4000000 in
theorem g_X2_sweetsInTins_b41 {X : Tx} {Q : Int32 → Sg → Prop} (C : Cx X cX2_sweetsInTins "SweetWraps$Machine" (some .int) 0 0 5 (QI (tE X) Q)) {m : Nat} {x1 : Int32} {x2 : Int32} (hm : m < 11) {K5 : Int32 → Int32 → Sg → Prop} (hK5 : ∀ (v3 : Int32) (v4 : Int32) (σ : Sg), K5 v3 v4 σ → G X σ [(0, .ref (ad (tE X) m 0 0)), (1, .int x1), (2, .int x2), (3, .int v3), (4, .int v4)] [] 5) {v3 : Int32} {v4 : Int32} {σ : Sg} (hw : wp_X2_sweetsInTins_b41 m x1 x2 K5 Q v3 v4 σ) : G X σ [(0, .ref (ad (tE X) m 0 0)), (1, .int x1), (2, .int x2), (3, .int v3), (4, .int v4)] [] 41 := by
  unfold wp_X2_sweetsInTins_b41 at hw
  obtain ⟨z8, e_z8⟩ : ∃ z : Int32, z = v4 + (1 : Int32) := ⟨_, rfl⟩
  replace hw := hw z8 e_z8
  refine gx_iinc (v := z8) (lv' := [(4, .int z8), (0, .ref (ad (tE X) m 0 0)), (1, .int x1), (2, .int x2), (3, .int v3)]) C dX2_sweetsInTins_41 4 rfl (by rw [e_z8]; rfl) (by decide) rfl ?_
  refine gx_goto (tgt := 5) C dX2_sweetsInTins_44 (by decide) ?_
  refine gx_sub (lv' := [(0, .ref (ad (tE X) m 0 0)), (1, .int x1), (2, .int x2), (3, .int v3), (4, .int z8)]) [1, 2, 3, 4, 0] rfl ?_
  exact hK5 _ _ _ hw
def st_X2_sweetsInTins_L5 (m : Nat) (x1 : Int32) (x2 : Int32) (Q : Int32 → Sg → Prop) (K5 : Int32 → Int32 → Sg → Prop) (v3 : Int32) (v4 : Int32) (σ : Sg) : Prop := (((16 : Int32) ≤ v4 → Q v3 σ) ∧ (¬ (16 : Int32) ≤ v4 → (vp_in v4 16 ∧ ∀ a3 : Nat, a3 = v4.toNatClampNeg → ((¬ (σ m 8 a3 3) = x2 → wp_X2_sweetsInTins_b41 m x1 x2 K5 Q v3 v4 σ) ∧ ((σ m 8 a3 3) = x2 → (vp_in v4 16 ∧ ∀ a6 : Nat, a6 = v4.toNatClampNeg → (vp_in x1 6 ∧ ∀ z7 : Int32, z7 = (v3 + (σ m 9 a6 x1.toNatClampNeg)) → wp_X2_sweetsInTins_b41 m x1 x2 K5 Q z7 v4 σ)))))))
def wp_X2_sweetsInTins_L5 (m : Nat) (x1 : Int32) (x2 : Int32) (Q : Int32 → Sg → Prop) (v3 : Int32) (v4 : Int32) (σ : Sg) : Prop := ∃ n : Nat, lpN (fun (K : Int32 × Int32 × Sg → Prop) (a : Int32 × Int32 × Sg) => st_X2_sweetsInTins_L5 m x1 x2 Q (fun v3 v4 σ => K (v3, v4, σ)) (a.1) (a.2.1) (a.2.2)) n (v3, v4, σ)
set_option maxRecDepth 100000 in
set_option maxHeartbeats 4000000 in
theorem gs_X2_sweetsInTins_L5 {X : Tx} {Q : Int32 → Sg → Prop} (C : Cx X cX2_sweetsInTins "SweetWraps$Machine" (some .int) 0 0 5 (QI (tE X) Q)) {m : Nat} {x1 : Int32} {x2 : Int32} (hm : m < 11) {K5 : Int32 → Int32 → Sg → Prop} (hK5 : ∀ (v3 : Int32) (v4 : Int32) (σ : Sg), K5 v3 v4 σ → G X σ [(0, .ref (ad (tE X) m 0 0)), (1, .int x1), (2, .int x2), (3, .int v3), (4, .int v4)] [] 5) {v3 : Int32} {v4 : Int32} {σ : Sg} (hw : st_X2_sweetsInTins_L5 m x1 x2 Q K5 v3 v4 σ) : G X σ [(0, .ref (ad (tE X) m 0 0)), (1, .int x1), (2, .int x2), (3, .int v3), (4, .int v4)] [] 5 := by
  unfold st_X2_sweetsInTins_L5 at hw
  refine gx_iload C dX2_sweetsInTins_5 4 rfl ?_
  refine gx_bipush (v := (16 : Int32)) C dX2_sweetsInTins_7 (by decide) ?_
  refine gx_icmp_ge (tgt := 47) C dX2_sweetsInTins_9 (by decide) (fun c1 => ?_) (fun c1 => ?_)
  · replace hw := hw.1 c1
    refine gx_iload_n C dX2_sweetsInTins_47 3 rfl ?_
    exact gx_iret C rfl rfl dX2_sweetsInTins_48 hw
  · replace hw := hw.2 c1
    refine gx_aload_n C dX2_sweetsInTins_12 0 rfl ?_
    refine gx_get C (ok0 hm) rfl rfl inX2 (ref := "SweetWraps$Machine") 2 (by decide) bw_97 rfl rfl dX2_sweetsInTins_13 ?_
    refine gx_iload C dX2_sweetsInTins_16 4 rfl ?_
    have h2 := hw.1
    replace hw := hw.2
    obtain ⟨a3, e_a3⟩ : ∃ z : Nat, z = v4.toNatClampNeg := ⟨_, rfl⟩
    replace hw := hw a3 e_a3
    have ha3 : a3 < 16 := by rw [e_a3]; exact vp_lt h2
    refine gx_aald C (ok3 hm) rfl (t0 := 4) rfl h2 (v := .ref (ad (tE X) m 8 a3)) (by rw [e_a3]; rfl) dX2_sweetsInTins_18 ?_
    refine gx_get C (ok8 hm ha3) rfl rfl inX4 (ref := "SweetWraps$Tin") 3 (by decide) bw_83 rfl rfl dX2_sweetsInTins_19 ?_
    refine gx_iload_n C dX2_sweetsInTins_22 2 rfl ?_
    refine gx_icmp_ne (tgt := 41) C dX2_sweetsInTins_23 (by decide) (fun c4 => ?_) (fun c4 => ?_)
    · replace hw := hw.1 c4
      exact g_X2_sweetsInTins_b41 C hm hK5 hw
    · replace hw := hw.2 c4
      refine gx_iload_n C dX2_sweetsInTins_26 3 rfl ?_
      refine gx_aload_n C dX2_sweetsInTins_27 0 rfl ?_
      refine gx_get C (ok0 hm) rfl rfl inX2 (ref := "SweetWraps$Machine") 2 (by decide) bw_97 rfl rfl dX2_sweetsInTins_28 ?_
      refine gx_iload C dX2_sweetsInTins_31 4 rfl ?_
      have h5 := hw.1
      replace hw := hw.2
      obtain ⟨a6, e_a6⟩ : ∃ z : Nat, z = v4.toNatClampNeg := ⟨_, rfl⟩
      replace hw := hw a6 e_a6
      have ha6 : a6 < 16 := by rw [e_a6]; exact vp_lt h5
      refine gx_aald C (ok3 hm) rfl (t0 := 4) rfl h5 (v := .ref (ad (tE X) m 8 a6)) (by rw [e_a6]; rfl) dX2_sweetsInTins_33 ?_
      refine gx_get C (ok8 hm ha6) rfl rfl inX4 (ref := "SweetWraps$Tin") 0 (by decide) bw_77 rfl rfl dX2_sweetsInTins_34 ?_
      refine gx_iload_n C dX2_sweetsInTins_37 1 rfl ?_
      refine gx_iald C (ok9 hm ha6) rfl hw.1 _ rfl dX2_sweetsInTins_38 ?_
      replace hw := hw.2
      refine gx_iadd C dX2_sweetsInTins_39 ?_
      obtain ⟨z7, e_z7⟩ : ∃ z : Int32, z = (v3 + (σ m 9 a6 x1.toNatClampNeg)) := ⟨_, rfl⟩
      replace hw := hw z7 e_z7
      refine gx_top e_z7 ?_
      refine gx_istore_n (lv' := [(3, .int z7), (0, .ref (ad (tE X) m 0 0)), (1, .int x1), (2, .int x2), (4, .int v4)]) C dX2_sweetsInTins_40 (by decide) rfl ?_
      refine gx_sub (lv' := [(0, .ref (ad (tE X) m 0 0)), (1, .int x1), (2, .int x2), (3, .int z7), (4, .int v4)]) [1, 2, 3, 0, 4] rfl ?_
      exact g_X2_sweetsInTins_b41 C hm hK5 hw
set_option maxRecDepth 100000 in
set_option maxHeartbeats 4000000 in
theorem g_X2_sweetsInTins_L5 {X : Tx} {Q : Int32 → Sg → Prop} (C : Cx X cX2_sweetsInTins "SweetWraps$Machine" (some .int) 0 0 5 (QI (tE X) Q)) {m : Nat} {x1 : Int32} {x2 : Int32} (hm : m < 11) {v3 : Int32} {v4 : Int32} {σ : Sg} (hw : wp_X2_sweetsInTins_L5 m x1 x2 Q v3 v4 σ) : G X σ [(0, .ref (ad (tE X) m 0 0)), (1, .int x1), (2, .int x2), (3, .int v3), (4, .int v4)] [] 5 := by
  obtain ⟨n, hw⟩ := hw
  exact lpN_G (P := (fun (a : Int32 × Int32 × Sg) => G X (a.2.2) [(0, .ref (ad (tE X) m 0 0)), (1, .int x1), (2, .int x2), (3, .int (a.1)), (4, .int (a.2.1))] [] 5)) (fun K a hK h => gs_X2_sweetsInTins_L5 C hm (fun v3 v4 σ h => hK (v3, v4, σ) h) h) n _ hw
def wp_X2_sweetsInTins (m : Nat) (x1 : Int32) (x2 : Int32) (σ : Sg) (Q : Int32 → Sg → Prop) : Prop := wp_X2_sweetsInTins_L5 m x1 x2 Q (0 : Int32) (0 : Int32) σ
set_option maxRecDepth 100000 in
set_option maxHeartbeats 4000000 in
theorem c_X2_sweetsInTins (l : Launch) (E : Ev) {m : Nat} {x1 : Int32} {x2 : Int32} (hm : m < 11) {σ : Sg} {Q : Int32 → Sg → Prop} (hw : wp_X2_sweetsInTins m x1 x2 σ Q) : CT l E yX2_sweetsInTins cX2_sweetsInTins 5 (some .int) 0 0 [.ref (ad E m 0 0), .int x1, .int x2] σ (QI E Q) := by
  refine CT_of (by decide) (Nat.le_of_ble_eq_true rfl) (fun X h1 h2 C => ?_)
  subst h1; subst h2
  have C : Cx X cX2_sweetsInTins "SweetWraps$Machine" (some .int) 0 0 5 (QI (tE X) Q) := C
  show G X σ [(0, .ref (ad (tE X) m 0 0)), (1, .int x1), (2, .int x2)] [] 0
  unfold wp_X2_sweetsInTins at hw
  refine gx_iconst (v := (0 : Int32)) C dX2_sweetsInTins_0 (by decide) ?_
  refine gx_istore_n (lv' := [(3, .int (0 : Int32)), (0, .ref (ad (tE X) m 0 0)), (1, .int x1), (2, .int x2)]) C dX2_sweetsInTins_1 (by decide) rfl ?_
  refine gx_iconst (v := (0 : Int32)) C dX2_sweetsInTins_2 (by decide) ?_
  refine gx_istore (lv' := [(4, .int (0 : Int32)), (3, .int (0 : Int32)), (0, .ref (ad (tE X) m 0 0)), (1, .int x1), (2, .int x2)]) C dX2_sweetsInTins_3 (by decide) rfl ?_
  refine gx_sub (lv' := [(0, .ref (ad (tE X) m 0 0)), (1, .int x1), (2, .int x2), (3, .int (0 : Int32)), (4, .int (0 : Int32))]) [2, 3, 4, 1, 0] rfl ?_
  exact g_X2_sweetsInTins_L5 C hm hw
theorem hy_X2_sweetsInTins : yX2_sweetsInTins.cls = "SweetWraps$Machine" ∧ yX2_sweetsInTins.cls ≠ "java/lang/invoke/MethodHandle" ∧ yX2_sweetsInTins.cls ≠ "java/lang/invoke/VarHandle" ∧ (parseMethodDescriptor yX2_sweetsInTins.desc).map (fun d => d.parameters.length) = some 2 := by decide +kernel

theorem dX2_sweetsShipped_0 : decode cX2_sweetsShipped 0 = .ok (.iconst 0, 1) := by decide +kernel
theorem dX2_sweetsShipped_1 : decode cX2_sweetsShipped 1 = .ok (.istore_n 1, 1) := by decide +kernel
theorem dX2_sweetsShipped_2 : decode cX2_sweetsShipped 2 = .ok (.iconst 0, 1) := by decide +kernel
theorem dX2_sweetsShipped_3 : decode cX2_sweetsShipped 3 = .ok (.istore_n 2, 1) := by decide +kernel
theorem dX2_sweetsShipped_4 : decode cX2_sweetsShipped 4 = .ok (.iload_n 2, 1) := by decide +kernel
theorem dX2_sweetsShipped_5 : decode cX2_sweetsShipped 5 = .ok (.bipush 6, 2) := by decide +kernel
theorem dX2_sweetsShipped_7 : decode cX2_sweetsShipped 7 = .ok (.if_icmp .ge 18, 3) := by decide +kernel
theorem dX2_sweetsShipped_10 : decode cX2_sweetsShipped 10 = .ok (.iload_n 1, 1) := by decide +kernel
theorem dX2_sweetsShipped_11 : decode cX2_sweetsShipped 11 = .ok (.aload_n 0, 1) := by decide +kernel
theorem dX2_sweetsShipped_12 : decode cX2_sweetsShipped 12 = .ok (.iload_n 2, 1) := by decide +kernel
theorem dX2_sweetsShipped_13 : decode cX2_sweetsShipped 13 = .ok (.iconst 1, 1) := by decide +kernel
theorem dX2_sweetsShipped_14 : decode cX2_sweetsShipped 14 = .ok (.invokevirtual 181, 3) := by decide +kernel
theorem dX2_sweetsShipped_17 : decode cX2_sweetsShipped 17 = .ok (.iadd, 1) := by decide +kernel
theorem dX2_sweetsShipped_18 : decode cX2_sweetsShipped 18 = .ok (.istore_n 1, 1) := by decide +kernel
theorem dX2_sweetsShipped_19 : decode cX2_sweetsShipped 19 = .ok (.iinc 2 1, 3) := by decide +kernel
theorem dX2_sweetsShipped_22 : decode cX2_sweetsShipped 22 = .ok (.goto (-18), 3) := by decide +kernel
theorem dX2_sweetsShipped_25 : decode cX2_sweetsShipped 25 = .ok (.iload_n 1, 1) := by decide +kernel
theorem dX2_sweetsShipped_26 : decode cX2_sweetsShipped 26 = .ok (.ireturn, 1) := by decide +kernel
def st_X2_sweetsShipped_L4 (m : Nat) (Q : Int32 → Sg → Prop) (K4 : Int32 → Int32 → Sg → Prop) (v1 : Int32) (v2 : Int32) (σ : Sg) : Prop := (((6 : Int32) ≤ v2 → Q v1 σ) ∧ (¬ (6 : Int32) ≤ v2 → wp_X2_sweetsInTins m v2 (1 : Int32) σ (fun r2 σ3 => ∀ z4 : Int32, z4 = (v1 + r2) → ∀ z5 : Int32, z5 = v2 + (1 : Int32) → K4 z4 z5 σ3)))
def wp_X2_sweetsShipped_L4 (m : Nat) (Q : Int32 → Sg → Prop) (v1 : Int32) (v2 : Int32) (σ : Sg) : Prop := ∃ n : Nat, lpN (fun (K : Int32 × Int32 × Sg → Prop) (a : Int32 × Int32 × Sg) => st_X2_sweetsShipped_L4 m Q (fun v1 v2 σ => K (v1, v2, σ)) (a.1) (a.2.1) (a.2.2)) n (v1, v2, σ)
set_option maxRecDepth 100000 in
set_option maxHeartbeats 4000000 in
theorem gs_X2_sweetsShipped_L4 {X : Tx} {Q : Int32 → Sg → Prop} (C : Cx X cX2_sweetsShipped "SweetWraps$Machine" (some .int) 1 24 3 (QI (tE X) Q)) {m : Nat} (hm : m < 11) {K4 : Int32 → Int32 → Sg → Prop} (hK4 : ∀ (v1 : Int32) (v2 : Int32) (σ : Sg), K4 v1 v2 σ → G X σ [(0, .ref (ad (tE X) m 0 0)), (1, .int v1), (2, .int v2)] [] 4) {v1 : Int32} {v2 : Int32} {σ : Sg} (hw : st_X2_sweetsShipped_L4 m Q K4 v1 v2 σ) : G X σ [(0, .ref (ad (tE X) m 0 0)), (1, .int v1), (2, .int v2)] [] 4 := by
  unfold st_X2_sweetsShipped_L4 at hw
  refine gx_iload_n C dX2_sweetsShipped_4 2 rfl ?_
  refine gx_bipush (v := (6 : Int32)) C dX2_sweetsShipped_5 (by decide) ?_
  refine gx_icmp_ge (tgt := 25) C dX2_sweetsShipped_7 (by decide) (fun c1 => ?_) (fun c1 => ?_)
  · replace hw := hw.1 c1
    refine gx_iload_n C dX2_sweetsShipped_25 1 rfl ?_
    exact gx_iret C rfl rfl dX2_sweetsShipped_26 hw
  · replace hw := hw.2 c1
    refine gx_iload_n C dX2_sweetsShipped_10 1 rfl ?_
    refine gx_aload_n C dX2_sweetsShipped_11 0 rfl ?_
    refine gx_iload_n C dX2_sweetsShipped_12 2 rfl ?_
    refine gx_iconst (v := (1 : Int32)) C dX2_sweetsShipped_13 (by decide) ?_
    refine gx_vcalli (As := [.int v2, .int (1 : Int32)]) (rest := [.int v1]) C (c_X2_sweetsInTins _ _ hm hw) (ok0 hm) rfl rfl bw_427 bw_429 bs_12 bw_2 bw_430 hy_X2_sweetsInTins ⟨by decide, by decide⟩ rfl (Nat.le_of_ble_eq_true rfl) dX2_sweetsShipped_14 (fun r2 σ3 hw => ?_)
    refine gx_iadd C dX2_sweetsShipped_17 ?_
    obtain ⟨z4, e_z4⟩ : ∃ z : Int32, z = (v1 + r2) := ⟨_, rfl⟩
    replace hw := hw z4 e_z4
    refine gx_top e_z4 ?_
    refine gx_istore_n (lv' := [(1, .int z4), (0, .ref (ad (tE X) m 0 0)), (2, .int v2)]) C dX2_sweetsShipped_18 (by decide) rfl ?_
    obtain ⟨z5, e_z5⟩ : ∃ z : Int32, z = v2 + (1 : Int32) := ⟨_, rfl⟩
    replace hw := hw z5 e_z5
    refine gx_iinc (v := z5) (lv' := [(2, .int z5), (1, .int z4), (0, .ref (ad (tE X) m 0 0))]) C dX2_sweetsShipped_19 2 rfl (by rw [e_z5]; rfl) (by decide) rfl ?_
    refine gx_goto (tgt := 4) C dX2_sweetsShipped_22 (by decide) ?_
    refine gx_sub (lv' := [(0, .ref (ad (tE X) m 0 0)), (1, .int z4), (2, .int z5)]) [2, 1, 0] rfl ?_
    exact hK4 _ _ _ hw
set_option maxRecDepth 100000 in
set_option maxHeartbeats 4000000 in
theorem g_X2_sweetsShipped_L4 {X : Tx} {Q : Int32 → Sg → Prop} (C : Cx X cX2_sweetsShipped "SweetWraps$Machine" (some .int) 1 24 3 (QI (tE X) Q)) {m : Nat} (hm : m < 11) {v1 : Int32} {v2 : Int32} {σ : Sg} (hw : wp_X2_sweetsShipped_L4 m Q v1 v2 σ) : G X σ [(0, .ref (ad (tE X) m 0 0)), (1, .int v1), (2, .int v2)] [] 4 := by
  obtain ⟨n, hw⟩ := hw
  exact lpN_G (P := (fun (a : Int32 × Int32 × Sg) => G X (a.2.2) [(0, .ref (ad (tE X) m 0 0)), (1, .int (a.1)), (2, .int (a.2.1))] [] 4)) (fun K a hK h => gs_X2_sweetsShipped_L4 C hm (fun v1 v2 σ h => hK (v1, v2, σ) h) h) n _ hw
def wp_X2_sweetsShipped (m : Nat) (σ : Sg) (Q : Int32 → Sg → Prop) : Prop := wp_X2_sweetsShipped_L4 m Q (0 : Int32) (0 : Int32) σ
set_option maxRecDepth 100000 in
set_option maxHeartbeats 4000000 in
theorem c_X2_sweetsShipped (l : Launch) (E : Ev) {m : Nat} (hm : m < 11) {σ : Sg} {Q : Int32 → Sg → Prop} (hw : wp_X2_sweetsShipped m σ Q) : CT l E yX2_sweetsShipped cX2_sweetsShipped 3 (some .int) 1 24 [.ref (ad E m 0 0)] σ (QI E Q) := by
  refine CT_of (by decide) (Nat.le_of_ble_eq_true rfl) (fun X h1 h2 C => ?_)
  subst h1; subst h2
  have C : Cx X cX2_sweetsShipped "SweetWraps$Machine" (some .int) 1 24 3 (QI (tE X) Q) := C
  show G X σ [(0, .ref (ad (tE X) m 0 0))] [] 0
  unfold wp_X2_sweetsShipped at hw
  refine gx_iconst (v := (0 : Int32)) C dX2_sweetsShipped_0 (by decide) ?_
  refine gx_istore_n (lv' := [(1, .int (0 : Int32)), (0, .ref (ad (tE X) m 0 0))]) C dX2_sweetsShipped_1 (by decide) rfl ?_
  refine gx_iconst (v := (0 : Int32)) C dX2_sweetsShipped_2 (by decide) ?_
  refine gx_istore_n (lv' := [(2, .int (0 : Int32)), (1, .int (0 : Int32)), (0, .ref (ad (tE X) m 0 0))]) C dX2_sweetsShipped_3 (by decide) rfl ?_
  refine gx_sub (lv' := [(0, .ref (ad (tE X) m 0 0)), (1, .int (0 : Int32)), (2, .int (0 : Int32))]) [2, 1, 0] rfl ?_
  exact g_X2_sweetsShipped_L4 C hm hw
theorem hy_X2_sweetsShipped : yX2_sweetsShipped.cls = "SweetWraps$Machine" ∧ yX2_sweetsShipped.cls ≠ "java/lang/invoke/MethodHandle" ∧ yX2_sweetsShipped.cls ≠ "java/lang/invoke/VarHandle" ∧ (parseMethodDescriptor yX2_sweetsShipped.desc).map (fun d => d.parameters.length) = some 0 := by decide +kernel

theorem dX2_openTinsAhead_0 : decode cX2_openTinsAhead 0 = .ok (.iconst 0, 1) := by decide +kernel
theorem dX2_openTinsAhead_1 : decode cX2_openTinsAhead 1 = .ok (.istore_n 2, 1) := by decide +kernel
theorem dX2_openTinsAhead_2 : decode cX2_openTinsAhead 2 = .ok (.iconst 0, 1) := by decide +kernel
theorem dX2_openTinsAhead_3 : decode cX2_openTinsAhead 3 = .ok (.istore_n 3, 1) := by decide +kernel
theorem dX2_openTinsAhead_4 : decode cX2_openTinsAhead 4 = .ok (.iload_n 3, 1) := by decide +kernel
theorem dX2_openTinsAhead_5 : decode cX2_openTinsAhead 5 = .ok (.bipush 16, 2) := by decide +kernel
theorem dX2_openTinsAhead_7 : decode cX2_openTinsAhead 7 = .ok (.if_icmp .ge 79, 3) := by decide +kernel
theorem dX2_openTinsAhead_10 : decode cX2_openTinsAhead 10 = .ok (.aload_n 0, 1) := by decide +kernel
theorem dX2_openTinsAhead_11 : decode cX2_openTinsAhead 11 = .ok (.getfield 23, 3) := by decide +kernel
theorem dX2_openTinsAhead_14 : decode cX2_openTinsAhead 14 = .ok (.iload_n 3, 1) := by decide +kernel
theorem dX2_openTinsAhead_15 : decode cX2_openTinsAhead 15 = .ok (.aaload, 1) := by decide +kernel
theorem dX2_openTinsAhead_16 : decode cX2_openTinsAhead 16 = .ok (.getfield 85, 3) := by decide +kernel
theorem dX2_openTinsAhead_19 : decode cX2_openTinsAhead 19 = .ok (.aload_n 0, 1) := by decide +kernel
theorem dX2_openTinsAhead_20 : decode cX2_openTinsAhead 20 = .ok (.getfield 23, 3) := by decide +kernel
theorem dX2_openTinsAhead_23 : decode cX2_openTinsAhead 23 = .ok (.iload_n 1, 1) := by decide +kernel
theorem dX2_openTinsAhead_24 : decode cX2_openTinsAhead 24 = .ok (.aaload, 1) := by decide +kernel
theorem dX2_openTinsAhead_25 : decode cX2_openTinsAhead 25 = .ok (.getfield 85, 3) := by decide +kernel
theorem dX2_openTinsAhead_28 : decode cX2_openTinsAhead 28 = .ok (.if_icmp .gt 29, 3) := by decide +kernel
theorem dX2_openTinsAhead_31 : decode cX2_openTinsAhead 31 = .ok (.aload_n 0, 1) := by decide +kernel
theorem dX2_openTinsAhead_32 : decode cX2_openTinsAhead 32 = .ok (.getfield 23, 3) := by decide +kernel
theorem dX2_openTinsAhead_35 : decode cX2_openTinsAhead 35 = .ok (.iload_n 3, 1) := by decide +kernel
theorem dX2_openTinsAhead_36 : decode cX2_openTinsAhead 36 = .ok (.aaload, 1) := by decide +kernel
theorem dX2_openTinsAhead_37 : decode cX2_openTinsAhead 37 = .ok (.getfield 85, 3) := by decide +kernel
theorem dX2_openTinsAhead_40 : decode cX2_openTinsAhead 40 = .ok (.aload_n 0, 1) := by decide +kernel
theorem dX2_openTinsAhead_41 : decode cX2_openTinsAhead 41 = .ok (.getfield 23, 3) := by decide +kernel
theorem dX2_openTinsAhead_44 : decode cX2_openTinsAhead 44 = .ok (.iload_n 1, 1) := by decide +kernel
theorem dX2_openTinsAhead_45 : decode cX2_openTinsAhead 45 = .ok (.aaload, 1) := by decide +kernel
theorem dX2_openTinsAhead_46 : decode cX2_openTinsAhead 46 = .ok (.getfield 85, 3) := by decide +kernel
theorem dX2_openTinsAhead_49 : decode cX2_openTinsAhead 49 = .ok (.if_icmp .ne 12, 3) := by decide +kernel
theorem dX2_openTinsAhead_52 : decode cX2_openTinsAhead 52 = .ok (.iload_n 3, 1) := by decide +kernel
theorem dX2_openTinsAhead_53 : decode cX2_openTinsAhead 53 = .ok (.iload_n 1, 1) := by decide +kernel
theorem dX2_openTinsAhead_54 : decode cX2_openTinsAhead 54 = .ok (.if_icmp .ge 7, 3) := by decide +kernel
theorem dX2_openTinsAhead_57 : decode cX2_openTinsAhead 57 = .ok (.iconst 1, 1) := by decide +kernel
theorem dX2_openTinsAhead_58 : decode cX2_openTinsAhead 58 = .ok (.goto 4, 3) := by decide +kernel
theorem dX2_openTinsAhead_61 : decode cX2_openTinsAhead 61 = .ok (.iconst 0, 1) := by decide +kernel
theorem dX2_openTinsAhead_62 : decode cX2_openTinsAhead 62 = .ok (.istore 4, 2) := by decide +kernel
theorem dX2_openTinsAhead_64 : decode cX2_openTinsAhead 64 = .ok (.aload_n 0, 1) := by decide +kernel
theorem dX2_openTinsAhead_65 : decode cX2_openTinsAhead 65 = .ok (.iload_n 3, 1) := by decide +kernel
theorem dX2_openTinsAhead_66 : decode cX2_openTinsAhead 66 = .ok (.invokevirtual 171, 3) := by decide +kernel
theorem dX2_openTinsAhead_69 : decode cX2_openTinsAhead 69 = .ok (.ifCond .eq 11, 3) := by decide +kernel
theorem dX2_openTinsAhead_72 : decode cX2_openTinsAhead 72 = .ok (.iload 4, 2) := by decide +kernel
theorem dX2_openTinsAhead_74 : decode cX2_openTinsAhead 74 = .ok (.ifCond .eq 6, 3) := by decide +kernel
theorem dX2_openTinsAhead_77 : decode cX2_openTinsAhead 77 = .ok (.iinc 2 1, 3) := by decide +kernel
theorem dX2_openTinsAhead_80 : decode cX2_openTinsAhead 80 = .ok (.iinc 3 1, 3) := by decide +kernel
theorem dX2_openTinsAhead_83 : decode cX2_openTinsAhead 83 = .ok (.goto (-79), 3) := by decide +kernel
theorem dX2_openTinsAhead_86 : decode cX2_openTinsAhead 86 = .ok (.iload_n 2, 1) := by decide +kernel
theorem dX2_openTinsAhead_87 : decode cX2_openTinsAhead 87 = .ok (.ireturn, 1) := by decide +kernel
def wp_X2_openTinsAhead_b80 (m : Nat) (x1 : Int32) (K4 : Int32 → Int32 → Sg → Prop) (Q : Int32 → Sg → Prop) (v2 : Int32) (v3 : Int32) (σ : Sg) : Prop := ∀ z18 : Int32, z18 = v3 + (1 : Int32) → K4 v2 z18 σ
set_option maxRecDepth 100000 in
set_option maxHeartbeats 4000000 in
theorem g_X2_openTinsAhead_b80 {X : Tx} {Q : Int32 → Sg → Prop} (C : Cx X cX2_openTinsAhead "SweetWraps$Machine" (some .int) 3 63 5 (QI (tE X) Q)) {m : Nat} {x1 : Int32} (hm : m < 11) {K4 : Int32 → Int32 → Sg → Prop} (hK4 : ∀ (v2 : Int32) (v3 : Int32) (σ : Sg), K4 v2 v3 σ → G X σ [(0, .ref (ad (tE X) m 0 0)), (1, .int x1), (2, .int v2), (3, .int v3)] [] 4) {v2 : Int32} {v3 : Int32} {σ : Sg} (hw : wp_X2_openTinsAhead_b80 m x1 K4 Q v2 v3 σ) : G X σ [(0, .ref (ad (tE X) m 0 0)), (1, .int x1), (2, .int v2), (3, .int v3)] [] 80 := by
  unfold wp_X2_openTinsAhead_b80 at hw
  obtain ⟨z18, e_z18⟩ : ∃ z : Int32, z = v3 + (1 : Int32) := ⟨_, rfl⟩
  replace hw := hw z18 e_z18
  refine gx_iinc (v := z18) (lv' := [(3, .int z18), (0, .ref (ad (tE X) m 0 0)), (1, .int x1), (2, .int v2)]) C dX2_openTinsAhead_80 3 rfl (by rw [e_z18]; rfl) (by decide) rfl ?_
  refine gx_goto (tgt := 4) C dX2_openTinsAhead_83 (by decide) ?_
  refine gx_sub (lv' := [(0, .ref (ad (tE X) m 0 0)), (1, .int x1), (2, .int v2), (3, .int z18)]) [1, 2, 3, 0] rfl ?_
  exact hK4 _ _ _ hw
def wp_X2_openTinsAhead_b62 (m : Nat) (x1 : Int32) (K4 : Int32 → Int32 → Sg → Prop) (Q : Int32 → Sg → Prop) (v2 : Int32) (v3 : Int32) (s0 : Int32) (σ : Sg) : Prop := wp_X2_isOpen m v3 σ (fun r13 σ14 => ((r13 = 0 → wp_X2_openTinsAhead_b80 m x1 K4 Q v2 v3 σ14) ∧ (¬ r13 = 0 → ((s0 = 0 → wp_X2_openTinsAhead_b80 m x1 K4 Q v2 v3 σ14) ∧ (¬ s0 = 0 → ∀ z17 : Int32, z17 = v2 + (1 : Int32) → wp_X2_openTinsAhead_b80 m x1 K4 Q z17 v3 σ14)))))
set_option maxRecDepth 100000 in
set_option maxHeartbeats 4000000 in
theorem g_X2_openTinsAhead_b62 {X : Tx} {Q : Int32 → Sg → Prop} (C : Cx X cX2_openTinsAhead "SweetWraps$Machine" (some .int) 3 63 5 (QI (tE X) Q)) {m : Nat} {x1 : Int32} (hm : m < 11) {K4 : Int32 → Int32 → Sg → Prop} (hK4 : ∀ (v2 : Int32) (v3 : Int32) (σ : Sg), K4 v2 v3 σ → G X σ [(0, .ref (ad (tE X) m 0 0)), (1, .int x1), (2, .int v2), (3, .int v3)] [] 4) {v2 : Int32} {v3 : Int32} {s0 : Int32} {σ : Sg} (hw : wp_X2_openTinsAhead_b62 m x1 K4 Q v2 v3 s0 σ) : G X σ [(0, .ref (ad (tE X) m 0 0)), (1, .int x1), (2, .int v2), (3, .int v3)] [.int s0] 62 := by
  unfold wp_X2_openTinsAhead_b62 at hw
  refine gx_istore (lv' := [(4, .int s0), (0, .ref (ad (tE X) m 0 0)), (1, .int x1), (2, .int v2), (3, .int v3)]) C dX2_openTinsAhead_62 (by decide) rfl ?_
  refine gx_aload_n C dX2_openTinsAhead_64 1 rfl ?_
  refine gx_iload_n C dX2_openTinsAhead_65 4 rfl ?_
  refine gx_vcalli (As := [.int v3]) (rest := []) C (c_X2_isOpen _ _ hm hw) (ok0 hm) rfl rfl bw_305 bw_307 bs_3 bw_2 bw_308 hy_X2_isOpen ⟨by decide, by decide⟩ rfl (Nat.le_of_ble_eq_true rfl) dX2_openTinsAhead_66 (fun r13 σ14 hw => ?_)
  refine gx_if_eq (tgt := 80) C dX2_openTinsAhead_69 (by decide) (fun c15 => ?_) (fun c15 => ?_)
  · replace hw := hw.1 c15
    refine gx_sub (lv' := [(0, .ref (ad (tE X) m 0 0)), (1, .int x1), (2, .int v2), (3, .int v3)]) [1, 2, 3, 4] rfl ?_
    exact g_X2_openTinsAhead_b80 C hm hK4 hw
  · replace hw := hw.2 c15
    refine gx_iload C dX2_openTinsAhead_72 0 rfl ?_
    refine gx_if_eq (tgt := 80) C dX2_openTinsAhead_74 (by decide) (fun c16 => ?_) (fun c16 => ?_)
    · replace hw := hw.1 c16
      refine gx_sub (lv' := [(0, .ref (ad (tE X) m 0 0)), (1, .int x1), (2, .int v2), (3, .int v3)]) [1, 2, 3, 4] rfl ?_
      exact g_X2_openTinsAhead_b80 C hm hK4 hw
    · replace hw := hw.2 c16
      obtain ⟨z17, e_z17⟩ : ∃ z : Int32, z = v2 + (1 : Int32) := ⟨_, rfl⟩
      replace hw := hw z17 e_z17
      refine gx_iinc (v := z17) (lv' := [(2, .int z17), (4, .int s0), (0, .ref (ad (tE X) m 0 0)), (1, .int x1), (3, .int v3)]) C dX2_openTinsAhead_77 3 rfl (by rw [e_z17]; rfl) (by decide) rfl ?_
      refine gx_sub (lv' := [(0, .ref (ad (tE X) m 0 0)), (1, .int x1), (2, .int z17), (3, .int v3)]) [2, 3, 0, 4] rfl ?_
      exact g_X2_openTinsAhead_b80 C hm hK4 hw
def wp_X2_openTinsAhead_b61 (m : Nat) (x1 : Int32) (K4 : Int32 → Int32 → Sg → Prop) (Q : Int32 → Sg → Prop) (v2 : Int32) (v3 : Int32) (σ : Sg) : Prop := wp_X2_openTinsAhead_b62 m x1 K4 Q v2 v3 (0 : Int32) σ
set_option maxRecDepth 100000 in
set_option maxHeartbeats 4000000 in
theorem g_X2_openTinsAhead_b61 {X : Tx} {Q : Int32 → Sg → Prop} (C : Cx X cX2_openTinsAhead "SweetWraps$Machine" (some .int) 3 63 5 (QI (tE X) Q)) {m : Nat} {x1 : Int32} (hm : m < 11) {K4 : Int32 → Int32 → Sg → Prop} (hK4 : ∀ (v2 : Int32) (v3 : Int32) (σ : Sg), K4 v2 v3 σ → G X σ [(0, .ref (ad (tE X) m 0 0)), (1, .int x1), (2, .int v2), (3, .int v3)] [] 4) {v2 : Int32} {v3 : Int32} {σ : Sg} (hw : wp_X2_openTinsAhead_b61 m x1 K4 Q v2 v3 σ) : G X σ [(0, .ref (ad (tE X) m 0 0)), (1, .int x1), (2, .int v2), (3, .int v3)] [] 61 := by
  unfold wp_X2_openTinsAhead_b61 at hw
  refine gx_iconst (v := (0 : Int32)) C dX2_openTinsAhead_61 (by decide) ?_
  exact g_X2_openTinsAhead_b62 C hm hK4 hw
def wp_X2_openTinsAhead_b57 (m : Nat) (x1 : Int32) (K4 : Int32 → Int32 → Sg → Prop) (Q : Int32 → Sg → Prop) (v2 : Int32) (v3 : Int32) (σ : Sg) : Prop := wp_X2_openTinsAhead_b62 m x1 K4 Q v2 v3 (1 : Int32) σ
set_option maxRecDepth 100000 in
set_option maxHeartbeats 4000000 in
theorem g_X2_openTinsAhead_b57 {X : Tx} {Q : Int32 → Sg → Prop} (C : Cx X cX2_openTinsAhead "SweetWraps$Machine" (some .int) 3 63 5 (QI (tE X) Q)) {m : Nat} {x1 : Int32} (hm : m < 11) {K4 : Int32 → Int32 → Sg → Prop} (hK4 : ∀ (v2 : Int32) (v3 : Int32) (σ : Sg), K4 v2 v3 σ → G X σ [(0, .ref (ad (tE X) m 0 0)), (1, .int x1), (2, .int v2), (3, .int v3)] [] 4) {v2 : Int32} {v3 : Int32} {σ : Sg} (hw : wp_X2_openTinsAhead_b57 m x1 K4 Q v2 v3 σ) : G X σ [(0, .ref (ad (tE X) m 0 0)), (1, .int x1), (2, .int v2), (3, .int v3)] [] 57 := by
  unfold wp_X2_openTinsAhead_b57 at hw
  refine gx_iconst (v := (1 : Int32)) C dX2_openTinsAhead_57 (by decide) ?_
  refine gx_goto (tgt := 62) C dX2_openTinsAhead_58 (by decide) ?_
  exact g_X2_openTinsAhead_b62 C hm hK4 hw
def st_X2_openTinsAhead_L4 (m : Nat) (x1 : Int32) (Q : Int32 → Sg → Prop) (K4 : Int32 → Int32 → Sg → Prop) (v2 : Int32) (v3 : Int32) (σ : Sg) : Prop := (((16 : Int32) ≤ v3 → Q v2 σ) ∧ (¬ (16 : Int32) ≤ v3 → (vp_in v3 16 ∧ ∀ a3 : Nat, a3 = v3.toNatClampNeg → (vp_in x1 16 ∧ ∀ a5 : Nat, a5 = x1.toNatClampNeg → (((σ m 8 a5 2) < (σ m 8 a3 2) → wp_X2_openTinsAhead_b57 m x1 K4 Q v2 v3 σ) ∧ (¬ (σ m 8 a5 2) < (σ m 8 a3 2) → (vp_in v3 16 ∧ ∀ a8 : Nat, a8 = v3.toNatClampNeg → (vp_in x1 16 ∧ ∀ a10 : Nat, a10 = x1.toNatClampNeg → ((¬ (σ m 8 a8 2) = (σ m 8 a10 2) → wp_X2_openTinsAhead_b61 m x1 K4 Q v2 v3 σ) ∧ ((σ m 8 a8 2) = (σ m 8 a10 2) → ((x1 ≤ v3 → wp_X2_openTinsAhead_b61 m x1 K4 Q v2 v3 σ) ∧ (¬ x1 ≤ v3 → wp_X2_openTinsAhead_b57 m x1 K4 Q v2 v3 σ))))))))))))
def wp_X2_openTinsAhead_L4 (m : Nat) (x1 : Int32) (Q : Int32 → Sg → Prop) (v2 : Int32) (v3 : Int32) (σ : Sg) : Prop := ∃ n : Nat, lpN (fun (K : Int32 × Int32 × Sg → Prop) (a : Int32 × Int32 × Sg) => st_X2_openTinsAhead_L4 m x1 Q (fun v2 v3 σ => K (v2, v3, σ)) (a.1) (a.2.1) (a.2.2)) n (v2, v3, σ)
set_option maxRecDepth 100000 in
set_option maxHeartbeats 4000000 in
theorem gs_X2_openTinsAhead_L4 {X : Tx} {Q : Int32 → Sg → Prop} (C : Cx X cX2_openTinsAhead "SweetWraps$Machine" (some .int) 3 63 5 (QI (tE X) Q)) {m : Nat} {x1 : Int32} (hm : m < 11) {K4 : Int32 → Int32 → Sg → Prop} (hK4 : ∀ (v2 : Int32) (v3 : Int32) (σ : Sg), K4 v2 v3 σ → G X σ [(0, .ref (ad (tE X) m 0 0)), (1, .int x1), (2, .int v2), (3, .int v3)] [] 4) {v2 : Int32} {v3 : Int32} {σ : Sg} (hw : st_X2_openTinsAhead_L4 m x1 Q K4 v2 v3 σ) : G X σ [(0, .ref (ad (tE X) m 0 0)), (1, .int x1), (2, .int v2), (3, .int v3)] [] 4 := by
  unfold st_X2_openTinsAhead_L4 at hw
  refine gx_iload_n C dX2_openTinsAhead_4 3 rfl ?_
  refine gx_bipush (v := (16 : Int32)) C dX2_openTinsAhead_5 (by decide) ?_
  refine gx_icmp_ge (tgt := 86) C dX2_openTinsAhead_7 (by decide) (fun c1 => ?_) (fun c1 => ?_)
  · replace hw := hw.1 c1
    refine gx_iload_n C dX2_openTinsAhead_86 2 rfl ?_
    exact gx_iret C rfl rfl dX2_openTinsAhead_87 hw
  · replace hw := hw.2 c1
    refine gx_aload_n C dX2_openTinsAhead_10 0 rfl ?_
    refine gx_get C (ok0 hm) rfl rfl inX2 (ref := "SweetWraps$Machine") 2 (by decide) bw_97 rfl rfl dX2_openTinsAhead_11 ?_
    refine gx_iload_n C dX2_openTinsAhead_14 3 rfl ?_
    have h2 := hw.1
    replace hw := hw.2
    obtain ⟨a3, e_a3⟩ : ∃ z : Nat, z = v3.toNatClampNeg := ⟨_, rfl⟩
    replace hw := hw a3 e_a3
    have ha3 : a3 < 16 := by rw [e_a3]; exact vp_lt h2
    refine gx_aald C (ok3 hm) rfl (t0 := 4) rfl h2 (v := .ref (ad (tE X) m 8 a3)) (by rw [e_a3]; rfl) dX2_openTinsAhead_15 ?_
    refine gx_get C (ok8 hm ha3) rfl rfl inX4 (ref := "SweetWraps$Tin") 2 (by decide) bw_81 rfl rfl dX2_openTinsAhead_16 ?_
    refine gx_aload_n C dX2_openTinsAhead_19 0 rfl ?_
    refine gx_get C (ok0 hm) rfl rfl inX2 (ref := "SweetWraps$Machine") 2 (by decide) bw_97 rfl rfl dX2_openTinsAhead_20 ?_
    refine gx_iload_n C dX2_openTinsAhead_23 1 rfl ?_
    have h4 := hw.1
    replace hw := hw.2
    obtain ⟨a5, e_a5⟩ : ∃ z : Nat, z = x1.toNatClampNeg := ⟨_, rfl⟩
    replace hw := hw a5 e_a5
    have ha5 : a5 < 16 := by rw [e_a5]; exact vp_lt h4
    refine gx_aald C (ok3 hm) rfl (t0 := 4) rfl h4 (v := .ref (ad (tE X) m 8 a5)) (by rw [e_a5]; rfl) dX2_openTinsAhead_24 ?_
    refine gx_get C (ok8 hm ha5) rfl rfl inX4 (ref := "SweetWraps$Tin") 2 (by decide) bw_81 rfl rfl dX2_openTinsAhead_25 ?_
    refine gx_icmp_gt (tgt := 57) C dX2_openTinsAhead_28 (by decide) (fun c6 => ?_) (fun c6 => ?_)
    · replace hw := hw.1 c6
      exact g_X2_openTinsAhead_b57 C hm hK4 hw
    · replace hw := hw.2 c6
      refine gx_aload_n C dX2_openTinsAhead_31 0 rfl ?_
      refine gx_get C (ok0 hm) rfl rfl inX2 (ref := "SweetWraps$Machine") 2 (by decide) bw_97 rfl rfl dX2_openTinsAhead_32 ?_
      refine gx_iload_n C dX2_openTinsAhead_35 3 rfl ?_
      have h7 := hw.1
      replace hw := hw.2
      obtain ⟨a8, e_a8⟩ : ∃ z : Nat, z = v3.toNatClampNeg := ⟨_, rfl⟩
      replace hw := hw a8 e_a8
      have ha8 : a8 < 16 := by rw [e_a8]; exact vp_lt h7
      refine gx_aald C (ok3 hm) rfl (t0 := 4) rfl h7 (v := .ref (ad (tE X) m 8 a8)) (by rw [e_a8]; rfl) dX2_openTinsAhead_36 ?_
      refine gx_get C (ok8 hm ha8) rfl rfl inX4 (ref := "SweetWraps$Tin") 2 (by decide) bw_81 rfl rfl dX2_openTinsAhead_37 ?_
      refine gx_aload_n C dX2_openTinsAhead_40 0 rfl ?_
      refine gx_get C (ok0 hm) rfl rfl inX2 (ref := "SweetWraps$Machine") 2 (by decide) bw_97 rfl rfl dX2_openTinsAhead_41 ?_
      refine gx_iload_n C dX2_openTinsAhead_44 1 rfl ?_
      have h9 := hw.1
      replace hw := hw.2
      obtain ⟨a10, e_a10⟩ : ∃ z : Nat, z = x1.toNatClampNeg := ⟨_, rfl⟩
      replace hw := hw a10 e_a10
      have ha10 : a10 < 16 := by rw [e_a10]; exact vp_lt h9
      refine gx_aald C (ok3 hm) rfl (t0 := 4) rfl h9 (v := .ref (ad (tE X) m 8 a10)) (by rw [e_a10]; rfl) dX2_openTinsAhead_45 ?_
      refine gx_get C (ok8 hm ha10) rfl rfl inX4 (ref := "SweetWraps$Tin") 2 (by decide) bw_81 rfl rfl dX2_openTinsAhead_46 ?_
      refine gx_icmp_ne (tgt := 61) C dX2_openTinsAhead_49 (by decide) (fun c11 => ?_) (fun c11 => ?_)
      · replace hw := hw.1 c11
        exact g_X2_openTinsAhead_b61 C hm hK4 hw
      · replace hw := hw.2 c11
        refine gx_iload_n C dX2_openTinsAhead_52 3 rfl ?_
        refine gx_iload_n C dX2_openTinsAhead_53 1 rfl ?_
        refine gx_icmp_ge (tgt := 61) C dX2_openTinsAhead_54 (by decide) (fun c12 => ?_) (fun c12 => ?_)
        · replace hw := hw.1 c12
          exact g_X2_openTinsAhead_b61 C hm hK4 hw
        · replace hw := hw.2 c12
          exact g_X2_openTinsAhead_b57 C hm hK4 hw
set_option maxRecDepth 100000 in
set_option maxHeartbeats 4000000 in
theorem g_X2_openTinsAhead_L4 {X : Tx} {Q : Int32 → Sg → Prop} (C : Cx X cX2_openTinsAhead "SweetWraps$Machine" (some .int) 3 63 5 (QI (tE X) Q)) {m : Nat} {x1 : Int32} (hm : m < 11) {v2 : Int32} {v3 : Int32} {σ : Sg} (hw : wp_X2_openTinsAhead_L4 m x1 Q v2 v3 σ) : G X σ [(0, .ref (ad (tE X) m 0 0)), (1, .int x1), (2, .int v2), (3, .int v3)] [] 4 := by
  obtain ⟨n, hw⟩ := hw
  exact lpN_G (P := (fun (a : Int32 × Int32 × Sg) => G X (a.2.2) [(0, .ref (ad (tE X) m 0 0)), (1, .int x1), (2, .int (a.1)), (3, .int (a.2.1))] [] 4)) (fun K a hK h => gs_X2_openTinsAhead_L4 C hm (fun v2 v3 σ h => hK (v2, v3, σ) h) h) n _ hw
def wp_X2_openTinsAhead (m : Nat) (x1 : Int32) (σ : Sg) (Q : Int32 → Sg → Prop) : Prop := wp_X2_openTinsAhead_L4 m x1 Q (0 : Int32) (0 : Int32) σ
set_option maxRecDepth 100000 in
set_option maxHeartbeats 4000000 in
theorem c_X2_openTinsAhead (l : Launch) (E : Ev) {m : Nat} {x1 : Int32} (hm : m < 11) {σ : Sg} {Q : Int32 → Sg → Prop} (hw : wp_X2_openTinsAhead m x1 σ Q) : CT l E yX2_openTinsAhead cX2_openTinsAhead 5 (some .int) 3 63 [.ref (ad E m 0 0), .int x1] σ (QI E Q) := by
  refine CT_of (by decide) (Nat.le_of_ble_eq_true rfl) (fun X h1 h2 C => ?_)
  subst h1; subst h2
  have C : Cx X cX2_openTinsAhead "SweetWraps$Machine" (some .int) 3 63 5 (QI (tE X) Q) := C
  show G X σ [(0, .ref (ad (tE X) m 0 0)), (1, .int x1)] [] 0
  unfold wp_X2_openTinsAhead at hw
  refine gx_iconst (v := (0 : Int32)) C dX2_openTinsAhead_0 (by decide) ?_
  refine gx_istore_n (lv' := [(2, .int (0 : Int32)), (0, .ref (ad (tE X) m 0 0)), (1, .int x1)]) C dX2_openTinsAhead_1 (by decide) rfl ?_
  refine gx_iconst (v := (0 : Int32)) C dX2_openTinsAhead_2 (by decide) ?_
  refine gx_istore_n (lv' := [(3, .int (0 : Int32)), (2, .int (0 : Int32)), (0, .ref (ad (tE X) m 0 0)), (1, .int x1)]) C dX2_openTinsAhead_3 (by decide) rfl ?_
  refine gx_sub (lv' := [(0, .ref (ad (tE X) m 0 0)), (1, .int x1), (2, .int (0 : Int32)), (3, .int (0 : Int32))]) [2, 3, 1, 0] rfl ?_
  exact g_X2_openTinsAhead_L4 C hm hw
theorem hy_X2_openTinsAhead : yX2_openTinsAhead.cls = "SweetWraps$Machine" ∧ yX2_openTinsAhead.cls ≠ "java/lang/invoke/MethodHandle" ∧ yX2_openTinsAhead.cls ≠ "java/lang/invoke/VarHandle" ∧ (parseMethodDescriptor yX2_openTinsAhead.desc).map (fun d => d.parameters.length) = some 1 := by decide +kernel

theorem dX2_tinOfRank_0 : decode cX2_tinOfRank 0 = .ok (.iconst 0, 1) := by decide +kernel
theorem dX2_tinOfRank_1 : decode cX2_tinOfRank 1 = .ok (.istore_n 2, 1) := by decide +kernel
theorem dX2_tinOfRank_2 : decode cX2_tinOfRank 2 = .ok (.iload_n 2, 1) := by decide +kernel
theorem dX2_tinOfRank_3 : decode cX2_tinOfRank 3 = .ok (.bipush 16, 2) := by decide +kernel
theorem dX2_tinOfRank_5 : decode cX2_tinOfRank 5 = .ok (.if_icmp .ge 28, 3) := by decide +kernel
theorem dX2_tinOfRank_8 : decode cX2_tinOfRank 8 = .ok (.aload_n 0, 1) := by decide +kernel
theorem dX2_tinOfRank_9 : decode cX2_tinOfRank 9 = .ok (.iload_n 2, 1) := by decide +kernel
theorem dX2_tinOfRank_10 : decode cX2_tinOfRank 10 = .ok (.invokevirtual 171, 3) := by decide +kernel
theorem dX2_tinOfRank_13 : decode cX2_tinOfRank 13 = .ok (.ifCond .eq 14, 3) := by decide +kernel
theorem dX2_tinOfRank_16 : decode cX2_tinOfRank 16 = .ok (.aload_n 0, 1) := by decide +kernel
theorem dX2_tinOfRank_17 : decode cX2_tinOfRank 17 = .ok (.iload_n 2, 1) := by decide +kernel
theorem dX2_tinOfRank_18 : decode cX2_tinOfRank 18 = .ok (.invokevirtual 185, 3) := by decide +kernel
theorem dX2_tinOfRank_21 : decode cX2_tinOfRank 21 = .ok (.iload_n 1, 1) := by decide +kernel
theorem dX2_tinOfRank_22 : decode cX2_tinOfRank 22 = .ok (.if_icmp .ne 5, 3) := by decide +kernel
theorem dX2_tinOfRank_25 : decode cX2_tinOfRank 25 = .ok (.iload_n 2, 1) := by decide +kernel
theorem dX2_tinOfRank_26 : decode cX2_tinOfRank 26 = .ok (.ireturn, 1) := by decide +kernel
theorem dX2_tinOfRank_27 : decode cX2_tinOfRank 27 = .ok (.iinc 2 1, 3) := by decide +kernel
theorem dX2_tinOfRank_30 : decode cX2_tinOfRank 30 = .ok (.goto (-28), 3) := by decide +kernel
theorem dX2_tinOfRank_33 : decode cX2_tinOfRank 33 = .ok (.iconst (-1), 1) := by decide +kernel
theorem dX2_tinOfRank_34 : decode cX2_tinOfRank 34 = .ok (.ireturn, 1) := by decide +kernel
def wp_X2_tinOfRank_b27 (m : Nat) (x1 : Int32) (K2 : Int32 → Sg → Prop) (Q : Int32 → Sg → Prop) (v2 : Int32) (σ : Sg) : Prop := ∀ z8 : Int32, z8 = v2 + (1 : Int32) → K2 z8 σ
set_option maxRecDepth 100000 in
set_option maxHeartbeats 4000000 in
theorem g_X2_tinOfRank_b27 {X : Tx} {Q : Int32 → Sg → Prop} (C : Cx X cX2_tinOfRank "SweetWraps$Machine" (some .int) 4 87 3 (QI (tE X) Q)) {m : Nat} {x1 : Int32} (hm : m < 11) {K2 : Int32 → Sg → Prop} (hK2 : ∀ (v2 : Int32) (σ : Sg), K2 v2 σ → G X σ [(0, .ref (ad (tE X) m 0 0)), (1, .int x1), (2, .int v2)] [] 2) {v2 : Int32} {σ : Sg} (hw : wp_X2_tinOfRank_b27 m x1 K2 Q v2 σ) : G X σ [(0, .ref (ad (tE X) m 0 0)), (1, .int x1), (2, .int v2)] [] 27 := by
  unfold wp_X2_tinOfRank_b27 at hw
  obtain ⟨z8, e_z8⟩ : ∃ z : Int32, z = v2 + (1 : Int32) := ⟨_, rfl⟩
  replace hw := hw z8 e_z8
  refine gx_iinc (v := z8) (lv' := [(2, .int z8), (0, .ref (ad (tE X) m 0 0)), (1, .int x1)]) C dX2_tinOfRank_27 2 rfl (by rw [e_z8]; rfl) (by decide) rfl ?_
  refine gx_goto (tgt := 2) C dX2_tinOfRank_30 (by decide) ?_
  refine gx_sub (lv' := [(0, .ref (ad (tE X) m 0 0)), (1, .int x1), (2, .int z8)]) [1, 2, 0] rfl ?_
  exact hK2 _ _ hw
def st_X2_tinOfRank_L2 (m : Nat) (x1 : Int32) (Q : Int32 → Sg → Prop) (K2 : Int32 → Sg → Prop) (v2 : Int32) (σ : Sg) : Prop := (((16 : Int32) ≤ v2 → Q (-1 : Int32) σ) ∧ (¬ (16 : Int32) ≤ v2 → wp_X2_isOpen m v2 σ (fun r2 σ3 => ((r2 = 0 → wp_X2_tinOfRank_b27 m x1 K2 Q v2 σ3) ∧ (¬ r2 = 0 → wp_X2_openTinsAhead m v2 σ3 (fun r5 σ6 => ((¬ r5 = x1 → wp_X2_tinOfRank_b27 m x1 K2 Q v2 σ6) ∧ (r5 = x1 → Q v2 σ6))))))))
def wp_X2_tinOfRank_L2 (m : Nat) (x1 : Int32) (Q : Int32 → Sg → Prop) (v2 : Int32) (σ : Sg) : Prop := ∃ n : Nat, lpN (fun (K : Int32 × Sg → Prop) (a : Int32 × Sg) => st_X2_tinOfRank_L2 m x1 Q (fun v2 σ => K (v2, σ)) (a.1) (a.2)) n (v2, σ)
set_option maxRecDepth 100000 in
set_option maxHeartbeats 4000000 in
theorem gs_X2_tinOfRank_L2 {X : Tx} {Q : Int32 → Sg → Prop} (C : Cx X cX2_tinOfRank "SweetWraps$Machine" (some .int) 4 87 3 (QI (tE X) Q)) {m : Nat} {x1 : Int32} (hm : m < 11) {K2 : Int32 → Sg → Prop} (hK2 : ∀ (v2 : Int32) (σ : Sg), K2 v2 σ → G X σ [(0, .ref (ad (tE X) m 0 0)), (1, .int x1), (2, .int v2)] [] 2) {v2 : Int32} {σ : Sg} (hw : st_X2_tinOfRank_L2 m x1 Q K2 v2 σ) : G X σ [(0, .ref (ad (tE X) m 0 0)), (1, .int x1), (2, .int v2)] [] 2 := by
  unfold st_X2_tinOfRank_L2 at hw
  refine gx_iload_n C dX2_tinOfRank_2 2 rfl ?_
  refine gx_bipush (v := (16 : Int32)) C dX2_tinOfRank_3 (by decide) ?_
  refine gx_icmp_ge (tgt := 33) C dX2_tinOfRank_5 (by decide) (fun c1 => ?_) (fun c1 => ?_)
  · replace hw := hw.1 c1
    refine gx_iconst (v := (-1 : Int32)) C dX2_tinOfRank_33 (by decide) ?_
    exact gx_iret C rfl rfl dX2_tinOfRank_34 hw
  · replace hw := hw.2 c1
    refine gx_aload_n C dX2_tinOfRank_8 0 rfl ?_
    refine gx_iload_n C dX2_tinOfRank_9 2 rfl ?_
    refine gx_vcalli (As := [.int v2]) (rest := []) C (c_X2_isOpen _ _ hm hw) (ok0 hm) rfl rfl bw_305 bw_307 bs_3 bw_2 bw_308 hy_X2_isOpen ⟨by decide, by decide⟩ rfl (Nat.le_of_ble_eq_true rfl) dX2_tinOfRank_10 (fun r2 σ3 hw => ?_)
    refine gx_if_eq (tgt := 27) C dX2_tinOfRank_13 (by decide) (fun c4 => ?_) (fun c4 => ?_)
    · replace hw := hw.1 c4
      exact g_X2_tinOfRank_b27 C hm hK2 hw
    · replace hw := hw.2 c4
      refine gx_aload_n C dX2_tinOfRank_16 0 rfl ?_
      refine gx_iload_n C dX2_tinOfRank_17 2 rfl ?_
      refine gx_vcalli (As := [.int v2]) (rest := []) C (c_X2_openTinsAhead _ _ hm hw) (ok0 hm) rfl rfl bw_439 bw_441 bs_13 bw_2 bw_442 hy_X2_openTinsAhead ⟨by decide, by decide⟩ rfl (Nat.le_of_ble_eq_true rfl) dX2_tinOfRank_18 (fun r5 σ6 hw => ?_)
      refine gx_iload_n C dX2_tinOfRank_21 1 rfl ?_
      refine gx_icmp_ne (tgt := 27) C dX2_tinOfRank_22 (by decide) (fun c7 => ?_) (fun c7 => ?_)
      · replace hw := hw.1 c7
        exact g_X2_tinOfRank_b27 C hm hK2 hw
      · replace hw := hw.2 c7
        refine gx_iload_n C dX2_tinOfRank_25 2 rfl ?_
        exact gx_iret C rfl rfl dX2_tinOfRank_26 hw
set_option maxRecDepth 100000 in
set_option maxHeartbeats 4000000 in
theorem g_X2_tinOfRank_L2 {X : Tx} {Q : Int32 → Sg → Prop} (C : Cx X cX2_tinOfRank "SweetWraps$Machine" (some .int) 4 87 3 (QI (tE X) Q)) {m : Nat} {x1 : Int32} (hm : m < 11) {v2 : Int32} {σ : Sg} (hw : wp_X2_tinOfRank_L2 m x1 Q v2 σ) : G X σ [(0, .ref (ad (tE X) m 0 0)), (1, .int x1), (2, .int v2)] [] 2 := by
  obtain ⟨n, hw⟩ := hw
  exact lpN_G (P := (fun (a : Int32 × Sg) => G X (a.2) [(0, .ref (ad (tE X) m 0 0)), (1, .int x1), (2, .int (a.1))] [] 2)) (fun K a hK h => gs_X2_tinOfRank_L2 C hm (fun v2 σ h => hK (v2, σ) h) h) n _ hw
def wp_X2_tinOfRank (m : Nat) (x1 : Int32) (σ : Sg) (Q : Int32 → Sg → Prop) : Prop := wp_X2_tinOfRank_L2 m x1 Q (0 : Int32) σ
set_option maxRecDepth 100000 in
set_option maxHeartbeats 4000000 in
theorem c_X2_tinOfRank (l : Launch) (E : Ev) {m : Nat} {x1 : Int32} (hm : m < 11) {σ : Sg} {Q : Int32 → Sg → Prop} (hw : wp_X2_tinOfRank m x1 σ Q) : CT l E yX2_tinOfRank cX2_tinOfRank 3 (some .int) 4 87 [.ref (ad E m 0 0), .int x1] σ (QI E Q) := by
  refine CT_of (by decide) (Nat.le_of_ble_eq_true rfl) (fun X h1 h2 C => ?_)
  subst h1; subst h2
  have C : Cx X cX2_tinOfRank "SweetWraps$Machine" (some .int) 4 87 3 (QI (tE X) Q) := C
  show G X σ [(0, .ref (ad (tE X) m 0 0)), (1, .int x1)] [] 0
  unfold wp_X2_tinOfRank at hw
  refine gx_iconst (v := (0 : Int32)) C dX2_tinOfRank_0 (by decide) ?_
  refine gx_istore_n (lv' := [(2, .int (0 : Int32)), (0, .ref (ad (tE X) m 0 0)), (1, .int x1)]) C dX2_tinOfRank_1 (by decide) rfl ?_
  refine gx_sub (lv' := [(0, .ref (ad (tE X) m 0 0)), (1, .int x1), (2, .int (0 : Int32))]) [1, 2, 0] rfl ?_
  exact g_X2_tinOfRank_L2 C hm hw
theorem hy_X2_tinOfRank : yX2_tinOfRank.cls = "SweetWraps$Machine" ∧ yX2_tinOfRank.cls ≠ "java/lang/invoke/MethodHandle" ∧ yX2_tinOfRank.cls ≠ "java/lang/invoke/VarHandle" ∧ (parseMethodDescriptor yX2_tinOfRank.desc).map (fun d => d.parameters.length) = some 1 := by decide +kernel

theorem dX2_sweetsInHoppers_0 : decode cX2_sweetsInHoppers 0 = .ok (.iconst 0, 1) := by decide +kernel
theorem dX2_sweetsInHoppers_1 : decode cX2_sweetsInHoppers 1 = .ok (.istore_n 2, 1) := by decide +kernel
theorem dX2_sweetsInHoppers_2 : decode cX2_sweetsInHoppers 2 = .ok (.iconst 0, 1) := by decide +kernel
theorem dX2_sweetsInHoppers_3 : decode cX2_sweetsInHoppers 3 = .ok (.istore_n 3, 1) := by decide +kernel
theorem dX2_sweetsInHoppers_4 : decode cX2_sweetsInHoppers 4 = .ok (.iload_n 3, 1) := by decide +kernel
theorem dX2_sweetsInHoppers_5 : decode cX2_sweetsInHoppers 5 = .ok (.iconst 4, 1) := by decide +kernel
theorem dX2_sweetsInHoppers_6 : decode cX2_sweetsInHoppers 6 = .ok (.if_icmp .ge 22, 3) := by decide +kernel
theorem dX2_sweetsInHoppers_9 : decode cX2_sweetsInHoppers 9 = .ok (.iload_n 2, 1) := by decide +kernel
theorem dX2_sweetsInHoppers_10 : decode cX2_sweetsInHoppers 10 = .ok (.aload_n 0, 1) := by decide +kernel
theorem dX2_sweetsInHoppers_11 : decode cX2_sweetsInHoppers 11 = .ok (.getfield 17, 3) := by decide +kernel
theorem dX2_sweetsInHoppers_14 : decode cX2_sweetsInHoppers 14 = .ok (.iload_n 3, 1) := by decide +kernel
theorem dX2_sweetsInHoppers_15 : decode cX2_sweetsInHoppers 15 = .ok (.aaload, 1) := by decide +kernel
theorem dX2_sweetsInHoppers_16 : decode cX2_sweetsInHoppers 16 = .ok (.iload_n 1, 1) := by decide +kernel
theorem dX2_sweetsInHoppers_17 : decode cX2_sweetsInHoppers 17 = .ok (.invokevirtual 191, 3) := by decide +kernel
theorem dX2_sweetsInHoppers_20 : decode cX2_sweetsInHoppers 20 = .ok (.iadd, 1) := by decide +kernel
theorem dX2_sweetsInHoppers_21 : decode cX2_sweetsInHoppers 21 = .ok (.istore_n 2, 1) := by decide +kernel
theorem dX2_sweetsInHoppers_22 : decode cX2_sweetsInHoppers 22 = .ok (.iinc 3 1, 3) := by decide +kernel
theorem dX2_sweetsInHoppers_25 : decode cX2_sweetsInHoppers 25 = .ok (.goto (-21), 3) := by decide +kernel
theorem dX2_sweetsInHoppers_28 : decode cX2_sweetsInHoppers 28 = .ok (.iload_n 2, 1) := by decide +kernel
theorem dX2_sweetsInHoppers_29 : decode cX2_sweetsInHoppers 29 = .ok (.ireturn, 1) := by decide +kernel
def st_X2_sweetsInHoppers_L4 (m : Nat) (x1 : Int32) (Q : Int32 → Sg → Prop) (K4 : Int32 → Int32 → Sg → Prop) (v2 : Int32) (v3 : Int32) (σ : Sg) : Prop := (((4 : Int32) ≤ v3 → Q v2 σ) ∧ (¬ (4 : Int32) ≤ v3 → (vp_in v3 4 ∧ ∀ a3 : Nat, a3 = v3.toNatClampNeg → wp_X1_sweetsOf m a3 x1 σ (fun r4 σ5 => ∀ z6 : Int32, z6 = (v2 + r4) → ∀ z7 : Int32, z7 = v3 + (1 : Int32) → K4 z6 z7 σ5))))
def wp_X2_sweetsInHoppers_L4 (m : Nat) (x1 : Int32) (Q : Int32 → Sg → Prop) (v2 : Int32) (v3 : Int32) (σ : Sg) : Prop := ∃ n : Nat, lpN (fun (K : Int32 × Int32 × Sg → Prop) (a : Int32 × Int32 × Sg) => st_X2_sweetsInHoppers_L4 m x1 Q (fun v2 v3 σ => K (v2, v3, σ)) (a.1) (a.2.1) (a.2.2)) n (v2, v3, σ)
set_option maxRecDepth 100000 in
set_option maxHeartbeats 4000000 in
theorem gs_X2_sweetsInHoppers_L4 {X : Tx} {Q : Int32 → Sg → Prop} (C : Cx X cX2_sweetsInHoppers "SweetWraps$Machine" (some .int) 1 23 4 (QI (tE X) Q)) {m : Nat} {x1 : Int32} (hm : m < 11) {K4 : Int32 → Int32 → Sg → Prop} (hK4 : ∀ (v2 : Int32) (v3 : Int32) (σ : Sg), K4 v2 v3 σ → G X σ [(0, .ref (ad (tE X) m 0 0)), (1, .int x1), (2, .int v2), (3, .int v3)] [] 4) {v2 : Int32} {v3 : Int32} {σ : Sg} (hw : st_X2_sweetsInHoppers_L4 m x1 Q K4 v2 v3 σ) : G X σ [(0, .ref (ad (tE X) m 0 0)), (1, .int x1), (2, .int v2), (3, .int v3)] [] 4 := by
  unfold st_X2_sweetsInHoppers_L4 at hw
  refine gx_iload_n C dX2_sweetsInHoppers_4 3 rfl ?_
  refine gx_iconst (v := (4 : Int32)) C dX2_sweetsInHoppers_5 (by decide) ?_
  refine gx_icmp_ge (tgt := 28) C dX2_sweetsInHoppers_6 (by decide) (fun c1 => ?_) (fun c1 => ?_)
  · replace hw := hw.1 c1
    refine gx_iload_n C dX2_sweetsInHoppers_28 2 rfl ?_
    exact gx_iret C rfl rfl dX2_sweetsInHoppers_29 hw
  · replace hw := hw.2 c1
    refine gx_iload_n C dX2_sweetsInHoppers_9 2 rfl ?_
    refine gx_aload_n C dX2_sweetsInHoppers_10 0 rfl ?_
    refine gx_get C (ok0 hm) rfl rfl inX2 (ref := "SweetWraps$Machine") 1 (by decide) bw_95 rfl rfl dX2_sweetsInHoppers_11 ?_
    refine gx_iload_n C dX2_sweetsInHoppers_14 3 rfl ?_
    have h2 := hw.1
    replace hw := hw.2
    obtain ⟨a3, e_a3⟩ : ∃ z : Nat, z = v3.toNatClampNeg := ⟨_, rfl⟩
    replace hw := hw a3 e_a3
    have ha3 : a3 < 4 := by rw [e_a3]; exact vp_lt h2
    refine gx_aald C (ok2 hm) rfl (t0 := 3) rfl h2 (v := .ref (ad (tE X) m 5 a3)) (by rw [e_a3]; rfl) dX2_sweetsInHoppers_15 ?_
    refine gx_iload_n C dX2_sweetsInHoppers_16 1 rfl ?_
    refine gx_vcalli (As := [.int x1]) (rest := [.int v2]) C (c_X1_sweetsOf _ _ hm ha3 hw) (ok5 hm ha3) rfl rfl bw_423 bw_424 bw_425 bw_3 bw_426 hy_X1_sweetsOf ⟨by decide, by decide⟩ rfl (Nat.le_of_ble_eq_true rfl) dX2_sweetsInHoppers_17 (fun r4 σ5 hw => ?_)
    refine gx_iadd C dX2_sweetsInHoppers_20 ?_
    obtain ⟨z6, e_z6⟩ : ∃ z : Int32, z = (v2 + r4) := ⟨_, rfl⟩
    replace hw := hw z6 e_z6
    refine gx_top e_z6 ?_
    refine gx_istore_n (lv' := [(2, .int z6), (0, .ref (ad (tE X) m 0 0)), (1, .int x1), (3, .int v3)]) C dX2_sweetsInHoppers_21 (by decide) rfl ?_
    obtain ⟨z7, e_z7⟩ : ∃ z : Int32, z = v3 + (1 : Int32) := ⟨_, rfl⟩
    replace hw := hw z7 e_z7
    refine gx_iinc (v := z7) (lv' := [(3, .int z7), (2, .int z6), (0, .ref (ad (tE X) m 0 0)), (1, .int x1)]) C dX2_sweetsInHoppers_22 3 rfl (by rw [e_z7]; rfl) (by decide) rfl ?_
    refine gx_goto (tgt := 4) C dX2_sweetsInHoppers_25 (by decide) ?_
    refine gx_sub (lv' := [(0, .ref (ad (tE X) m 0 0)), (1, .int x1), (2, .int z6), (3, .int z7)]) [2, 3, 1, 0] rfl ?_
    exact hK4 _ _ _ hw
set_option maxRecDepth 100000 in
set_option maxHeartbeats 4000000 in
theorem g_X2_sweetsInHoppers_L4 {X : Tx} {Q : Int32 → Sg → Prop} (C : Cx X cX2_sweetsInHoppers "SweetWraps$Machine" (some .int) 1 23 4 (QI (tE X) Q)) {m : Nat} {x1 : Int32} (hm : m < 11) {v2 : Int32} {v3 : Int32} {σ : Sg} (hw : wp_X2_sweetsInHoppers_L4 m x1 Q v2 v3 σ) : G X σ [(0, .ref (ad (tE X) m 0 0)), (1, .int x1), (2, .int v2), (3, .int v3)] [] 4 := by
  obtain ⟨n, hw⟩ := hw
  exact lpN_G (P := (fun (a : Int32 × Int32 × Sg) => G X (a.2.2) [(0, .ref (ad (tE X) m 0 0)), (1, .int x1), (2, .int (a.1)), (3, .int (a.2.1))] [] 4)) (fun K a hK h => gs_X2_sweetsInHoppers_L4 C hm (fun v2 v3 σ h => hK (v2, v3, σ) h) h) n _ hw
def wp_X2_sweetsInHoppers (m : Nat) (x1 : Int32) (σ : Sg) (Q : Int32 → Sg → Prop) : Prop := wp_X2_sweetsInHoppers_L4 m x1 Q (0 : Int32) (0 : Int32) σ
set_option maxRecDepth 100000 in
set_option maxHeartbeats 4000000 in
theorem c_X2_sweetsInHoppers (l : Launch) (E : Ev) {m : Nat} {x1 : Int32} (hm : m < 11) {σ : Sg} {Q : Int32 → Sg → Prop} (hw : wp_X2_sweetsInHoppers m x1 σ Q) : CT l E yX2_sweetsInHoppers cX2_sweetsInHoppers 4 (some .int) 1 23 [.ref (ad E m 0 0), .int x1] σ (QI E Q) := by
  refine CT_of (by decide) (Nat.le_of_ble_eq_true rfl) (fun X h1 h2 C => ?_)
  subst h1; subst h2
  have C : Cx X cX2_sweetsInHoppers "SweetWraps$Machine" (some .int) 1 23 4 (QI (tE X) Q) := C
  show G X σ [(0, .ref (ad (tE X) m 0 0)), (1, .int x1)] [] 0
  unfold wp_X2_sweetsInHoppers at hw
  refine gx_iconst (v := (0 : Int32)) C dX2_sweetsInHoppers_0 (by decide) ?_
  refine gx_istore_n (lv' := [(2, .int (0 : Int32)), (0, .ref (ad (tE X) m 0 0)), (1, .int x1)]) C dX2_sweetsInHoppers_1 (by decide) rfl ?_
  refine gx_iconst (v := (0 : Int32)) C dX2_sweetsInHoppers_2 (by decide) ?_
  refine gx_istore_n (lv' := [(3, .int (0 : Int32)), (2, .int (0 : Int32)), (0, .ref (ad (tE X) m 0 0)), (1, .int x1)]) C dX2_sweetsInHoppers_3 (by decide) rfl ?_
  refine gx_sub (lv' := [(0, .ref (ad (tE X) m 0 0)), (1, .int x1), (2, .int (0 : Int32)), (3, .int (0 : Int32))]) [2, 3, 1, 0] rfl ?_
  exact g_X2_sweetsInHoppers_L4 C hm hw
theorem hy_X2_sweetsInHoppers : yX2_sweetsInHoppers.cls = "SweetWraps$Machine" ∧ yX2_sweetsInHoppers.cls ≠ "java/lang/invoke/MethodHandle" ∧ yX2_sweetsInHoppers.cls ≠ "java/lang/invoke/VarHandle" ∧ (parseMethodDescriptor yX2_sweetsInHoppers.desc).map (fun d => d.parameters.length) = some 1 := by decide +kernel

theorem dX2_flavourFact_0 : decode cX2_flavourFact 0 = .ok (.iload_n 1, 1) := by decide +kernel
theorem dX2_flavourFact_1 : decode cX2_flavourFact 1 = .ok (.bipush 6, 2) := by decide +kernel
theorem dX2_flavourFact_3 : decode cX2_flavourFact 3 = .ok (.invokestatic 56, 3) := by decide +kernel
theorem dX2_flavourFact_6 : decode cX2_flavourFact 6 = .ok (.ifCond .ne 5, 3) := by decide +kernel
theorem dX2_flavourFact_9 : decode cX2_flavourFact 9 = .ok (.iconst (-1), 1) := by decide +kernel
theorem dX2_flavourFact_10 : decode cX2_flavourFact 10 = .ok (.ireturn, 1) := by decide +kernel
theorem dX2_flavourFact_11 : decode cX2_flavourFact 11 = .ok (.iload_n 2, 1) := by decide +kernel
theorem dX2_flavourFact_12 : decode cX2_flavourFact 12 = .ok (.tableswitch 59 0 3 #[32, 38, 45, 52], 32) := by decide +kernel
theorem dX2_flavourFact_44 : decode cX2_flavourFact 44 = .ok (.aload_n 0, 1) := by decide +kernel
theorem dX2_flavourFact_45 : decode cX2_flavourFact 45 = .ok (.iload_n 1, 1) := by decide +kernel
theorem dX2_flavourFact_46 : decode cX2_flavourFact 46 = .ok (.invokevirtual 188, 3) := by decide +kernel
theorem dX2_flavourFact_49 : decode cX2_flavourFact 49 = .ok (.ireturn, 1) := by decide +kernel
theorem dX2_flavourFact_50 : decode cX2_flavourFact 50 = .ok (.aload_n 0, 1) := by decide +kernel
theorem dX2_flavourFact_51 : decode cX2_flavourFact 51 = .ok (.iload_n 1, 1) := by decide +kernel
theorem dX2_flavourFact_52 : decode cX2_flavourFact 52 = .ok (.iconst 0, 1) := by decide +kernel
theorem dX2_flavourFact_53 : decode cX2_flavourFact 53 = .ok (.invokevirtual 181, 3) := by decide +kernel
theorem dX2_flavourFact_56 : decode cX2_flavourFact 56 = .ok (.ireturn, 1) := by decide +kernel
theorem dX2_flavourFact_57 : decode cX2_flavourFact 57 = .ok (.aload_n 0, 1) := by decide +kernel
theorem dX2_flavourFact_58 : decode cX2_flavourFact 58 = .ok (.iload_n 1, 1) := by decide +kernel
theorem dX2_flavourFact_59 : decode cX2_flavourFact 59 = .ok (.iconst 1, 1) := by decide +kernel
theorem dX2_flavourFact_60 : decode cX2_flavourFact 60 = .ok (.invokevirtual 181, 3) := by decide +kernel
theorem dX2_flavourFact_63 : decode cX2_flavourFact 63 = .ok (.ireturn, 1) := by decide +kernel
theorem dX2_flavourFact_64 : decode cX2_flavourFact 64 = .ok (.aload_n 0, 1) := by decide +kernel
theorem dX2_flavourFact_65 : decode cX2_flavourFact 65 = .ok (.getfield 27, 3) := by decide +kernel
theorem dX2_flavourFact_68 : decode cX2_flavourFact 68 = .ok (.iload_n 1, 1) := by decide +kernel
theorem dX2_flavourFact_69 : decode cX2_flavourFact 69 = .ok (.iaload, 1) := by decide +kernel
theorem dX2_flavourFact_70 : decode cX2_flavourFact 70 = .ok (.ireturn, 1) := by decide +kernel
theorem dX2_flavourFact_71 : decode cX2_flavourFact 71 = .ok (.bipush (-2), 2) := by decide +kernel
theorem dX2_flavourFact_73 : decode cX2_flavourFact 73 = .ok (.ireturn, 1) := by decide +kernel
def wp_X2_flavourFact (m : Nat) (x1 : Int32) (x2 : Int32) (σ : Sg) (Q : Int32 → Sg → Prop) : Prop := wp_X5_isIndex x1 (6 : Int32) σ (fun r1 σ2 => ((¬ r1 = 0 → ((x2 = (0 : Int32) → wp_X2_sweetsInHoppers m x1 σ2 (fun r8 σ9 => Q r8 σ9)) ∧ (¬ x2 = (0 : Int32) → ((x2 = (1 : Int32) → wp_X2_sweetsInTins m x1 (0 : Int32) σ2 (fun r10 σ11 => Q r10 σ11)) ∧ (¬ x2 = (1 : Int32) → ((x2 = (2 : Int32) → wp_X2_sweetsInTins m x1 (1 : Int32) σ2 (fun r12 σ13 => Q r12 σ13)) ∧ (¬ x2 = (2 : Int32) → ((x2 = (3 : Int32) → (vp_in x1 6 ∧ Q (σ2 m 4 0 x1.toNatClampNeg) σ2)) ∧ (¬ x2 = (3 : Int32) → Q (-2 : Int32) σ2))))))))) ∧ (r1 = 0 → Q (-1 : Int32) σ2)))
set_option maxRecDepth 100000 in
set_option maxHeartbeats 4000000 in
theorem c_X2_flavourFact (l : Launch) (E : Ev) {m : Nat} {x1 : Int32} {x2 : Int32} (hm : m < 11) {σ : Sg} {Q : Int32 → Sg → Prop} (hw : wp_X2_flavourFact m x1 x2 σ Q) : CT l E yX2_flavourFact cX2_flavourFact 3 (some .int) 2 46 [.ref (ad E m 0 0), .int x1, .int x2] σ (QI E Q) := by
  refine CT_of (by decide) (Nat.le_of_ble_eq_true rfl) (fun X h1 h2 C => ?_)
  subst h1; subst h2
  have C : Cx X cX2_flavourFact "SweetWraps$Machine" (some .int) 2 46 3 (QI (tE X) Q) := C
  show G X σ [(0, .ref (ad (tE X) m 0 0)), (1, .int x1), (2, .int x2)] [] 0
  unfold wp_X2_flavourFact at hw
  refine gx_iload_n C dX2_flavourFact_0 1 rfl ?_
  refine gx_bipush (v := (6 : Int32)) C dX2_flavourFact_1 (by decide) ?_
  refine gx_ncalli (As := [.int x1, .int (6 : Int32)]) (rest := []) (host := "SweetWraps") C (c_X5_isIndex _ _ hw) (nest_in _ (by decide +kernel)) bw_226 bw_1 bw_227 hyS_X5_isIndex ⟨by decide, by decide⟩ rfl (Nat.le_of_ble_eq_true rfl) dX2_flavourFact_3 (fun r1 σ2 hw => ?_)
  refine gx_if_ne (tgt := 11) C dX2_flavourFact_6 (by decide) (fun c3 => ?_) (fun c3 => ?_)
  · replace hw := hw.1 c3
    refine gx_iload_n C dX2_flavourFact_11 2 rfl ?_
    by_cases c4 : x2 = (0 : Int32)
    · replace hw := hw.1 c4
      refine gx_table (tgt := 44) (off := 32) C dX2_flavourFact_12 (0 : Int32) c4 (by decide) (by decide) rfl (by decide) ?_
      refine gx_aload_n C dX2_flavourFact_44 0 rfl ?_
      refine gx_iload_n C dX2_flavourFact_45 1 rfl ?_
      refine gx_vcalli (As := [.int x1]) (rest := []) C (c_X2_sweetsInHoppers _ _ hm hw) (ok0 hm) rfl rfl bw_419 bw_421 bs_11 bw_2 bw_422 hy_X2_sweetsInHoppers ⟨by decide, by decide⟩ rfl (Nat.le_of_ble_eq_true rfl) dX2_flavourFact_46 (fun r8 σ9 hw => ?_)
      exact gx_iret C rfl rfl dX2_flavourFact_49 hw
    · replace hw := hw.2 c4
      by_cases c5 : x2 = (1 : Int32)
      · replace hw := hw.1 c5
        refine gx_table (tgt := 50) (off := 38) C dX2_flavourFact_12 (1 : Int32) c5 (by decide) (by decide) rfl (by decide) ?_
        refine gx_aload_n C dX2_flavourFact_50 0 rfl ?_
        refine gx_iload_n C dX2_flavourFact_51 1 rfl ?_
        refine gx_iconst (v := (0 : Int32)) C dX2_flavourFact_52 (by decide) ?_
        refine gx_vcalli (As := [.int x1, .int (0 : Int32)]) (rest := []) C (c_X2_sweetsInTins _ _ hm hw) (ok0 hm) rfl rfl bw_427 bw_429 bs_12 bw_2 bw_430 hy_X2_sweetsInTins ⟨by decide, by decide⟩ rfl (Nat.le_of_ble_eq_true rfl) dX2_flavourFact_53 (fun r10 σ11 hw => ?_)
        exact gx_iret C rfl rfl dX2_flavourFact_56 hw
      · replace hw := hw.2 c5
        by_cases c6 : x2 = (2 : Int32)
        · replace hw := hw.1 c6
          refine gx_table (tgt := 57) (off := 45) C dX2_flavourFact_12 (2 : Int32) c6 (by decide) (by decide) rfl (by decide) ?_
          refine gx_aload_n C dX2_flavourFact_57 0 rfl ?_
          refine gx_iload_n C dX2_flavourFact_58 1 rfl ?_
          refine gx_iconst (v := (1 : Int32)) C dX2_flavourFact_59 (by decide) ?_
          refine gx_vcalli (As := [.int x1, .int (1 : Int32)]) (rest := []) C (c_X2_sweetsInTins _ _ hm hw) (ok0 hm) rfl rfl bw_427 bw_429 bs_12 bw_2 bw_430 hy_X2_sweetsInTins ⟨by decide, by decide⟩ rfl (Nat.le_of_ble_eq_true rfl) dX2_flavourFact_60 (fun r12 σ13 hw => ?_)
          exact gx_iret C rfl rfl dX2_flavourFact_63 hw
        · replace hw := hw.2 c6
          by_cases c7 : x2 = (3 : Int32)
          · replace hw := hw.1 c7
            refine gx_table (tgt := 64) (off := 52) C dX2_flavourFact_12 (3 : Int32) c7 (by decide) (by decide) rfl (by decide) ?_
            refine gx_aload_n C dX2_flavourFact_64 0 rfl ?_
            refine gx_get C (ok0 hm) rfl rfl inX2 (ref := "SweetWraps$Machine") 3 (by decide) bw_98 rfl rfl dX2_flavourFact_65 ?_
            refine gx_iload_n C dX2_flavourFact_68 1 rfl ?_
            refine gx_iald C (ok4 hm) rfl hw.1 _ rfl dX2_flavourFact_69 ?_
            replace hw := hw.2
            exact gx_iret C rfl rfl dX2_flavourFact_70 hw
          · replace hw := hw.2 c7
            refine gx_tableD (tgt := 71) C dX2_flavourFact_12 (by decide) [((32 : Int), (0 : Nat)), ((38 : Int), (1 : Nat)), ((45 : Int), (2 : Nat)), ((52 : Int), (3 : Nat))] rfl (List.forall_mem_cons.mpr ⟨Or.inr ⟨(0 : Int32), c4, by decide⟩, List.forall_mem_cons.mpr ⟨Or.inr ⟨(1 : Int32), c5, by decide⟩, List.forall_mem_cons.mpr ⟨Or.inr ⟨(2 : Int32), c6, by decide⟩, List.forall_mem_cons.mpr ⟨Or.inr ⟨(3 : Int32), c7, by decide⟩, fun _ h => absurd h List.not_mem_nil⟩⟩⟩⟩) (by decide) ?_
            refine gx_bipush (v := (-2 : Int32)) C dX2_flavourFact_71 (by decide) ?_
            exact gx_iret C rfl rfl dX2_flavourFact_73 hw
  · replace hw := hw.2 c3
    refine gx_iconst (v := (-1 : Int32)) C dX2_flavourFact_9 (by decide) ?_
    exact gx_iret C rfl rfl dX2_flavourFact_10 hw
theorem hy_X2_flavourFact : yX2_flavourFact.cls = "SweetWraps$Machine" ∧ yX2_flavourFact.cls ≠ "java/lang/invoke/MethodHandle" ∧ yX2_flavourFact.cls ≠ "java/lang/invoke/VarHandle" ∧ (parseMethodDescriptor yX2_flavourFact.desc).map (fun d => d.parameters.length) = some 2 := by decide +kernel

theorem dX2_sweetsInAllTins_0 : decode cX2_sweetsInAllTins 0 = .ok (.aload_n 0, 1) := by decide +kernel
theorem dX2_sweetsInAllTins_1 : decode cX2_sweetsInAllTins 1 = .ok (.iload_n 1, 1) := by decide +kernel
theorem dX2_sweetsInAllTins_2 : decode cX2_sweetsInAllTins 2 = .ok (.iconst 0, 1) := by decide +kernel
theorem dX2_sweetsInAllTins_3 : decode cX2_sweetsInAllTins 3 = .ok (.invokevirtual 181, 3) := by decide +kernel
theorem dX2_sweetsInAllTins_6 : decode cX2_sweetsInAllTins 6 = .ok (.aload_n 0, 1) := by decide +kernel
theorem dX2_sweetsInAllTins_7 : decode cX2_sweetsInAllTins 7 = .ok (.iload_n 1, 1) := by decide +kernel
theorem dX2_sweetsInAllTins_8 : decode cX2_sweetsInAllTins 8 = .ok (.iconst 1, 1) := by decide +kernel
theorem dX2_sweetsInAllTins_9 : decode cX2_sweetsInAllTins 9 = .ok (.invokevirtual 181, 3) := by decide +kernel
theorem dX2_sweetsInAllTins_12 : decode cX2_sweetsInAllTins 12 = .ok (.iadd, 1) := by decide +kernel
theorem dX2_sweetsInAllTins_13 : decode cX2_sweetsInAllTins 13 = .ok (.ireturn, 1) := by decide +kernel
def wp_X2_sweetsInAllTins (m : Nat) (x1 : Int32) (σ : Sg) (Q : Int32 → Sg → Prop) : Prop := wp_X2_sweetsInTins m x1 (0 : Int32) σ (fun r1 σ2 => wp_X2_sweetsInTins m x1 (1 : Int32) σ2 (fun r3 σ4 => Q (r1 + r3) σ4))
set_option maxRecDepth 100000 in
set_option maxHeartbeats 4000000 in
theorem c_X2_sweetsInAllTins (l : Launch) (E : Ev) {m : Nat} {x1 : Int32} (hm : m < 11) {σ : Sg} {Q : Int32 → Sg → Prop} (hw : wp_X2_sweetsInAllTins m x1 σ Q) : CT l E yX2_sweetsInAllTins cX2_sweetsInAllTins 2 (some .int) 1 24 [.ref (ad E m 0 0), .int x1] σ (QI E Q) := by
  refine CT_of (by decide) (Nat.le_of_ble_eq_true rfl) (fun X h1 h2 C => ?_)
  subst h1; subst h2
  have C : Cx X cX2_sweetsInAllTins "SweetWraps$Machine" (some .int) 1 24 2 (QI (tE X) Q) := C
  show G X σ [(0, .ref (ad (tE X) m 0 0)), (1, .int x1)] [] 0
  unfold wp_X2_sweetsInAllTins at hw
  refine gx_aload_n C dX2_sweetsInAllTins_0 0 rfl ?_
  refine gx_iload_n C dX2_sweetsInAllTins_1 1 rfl ?_
  refine gx_iconst (v := (0 : Int32)) C dX2_sweetsInAllTins_2 (by decide) ?_
  refine gx_vcalli (As := [.int x1, .int (0 : Int32)]) (rest := []) C (c_X2_sweetsInTins _ _ hm hw) (ok0 hm) rfl rfl bw_427 bw_429 bs_12 bw_2 bw_430 hy_X2_sweetsInTins ⟨by decide, by decide⟩ rfl (Nat.le_of_ble_eq_true rfl) dX2_sweetsInAllTins_3 (fun r1 σ2 hw => ?_)
  refine gx_aload_n C dX2_sweetsInAllTins_6 0 rfl ?_
  refine gx_iload_n C dX2_sweetsInAllTins_7 1 rfl ?_
  refine gx_iconst (v := (1 : Int32)) C dX2_sweetsInAllTins_8 (by decide) ?_
  refine gx_vcalli (As := [.int x1, .int (1 : Int32)]) (rest := [.int r1]) C (c_X2_sweetsInTins _ _ hm hw) (ok0 hm) rfl rfl bw_427 bw_429 bs_12 bw_2 bw_430 hy_X2_sweetsInTins ⟨by decide, by decide⟩ rfl (Nat.le_of_ble_eq_true rfl) dX2_sweetsInAllTins_9 (fun r3 σ4 hw => ?_)
  refine gx_iadd C dX2_sweetsInAllTins_12 ?_
  exact gx_iret C rfl rfl dX2_sweetsInAllTins_13 hw
theorem hy_X2_sweetsInAllTins : yX2_sweetsInAllTins.cls = "SweetWraps$Machine" ∧ yX2_sweetsInAllTins.cls ≠ "java/lang/invoke/MethodHandle" ∧ yX2_sweetsInAllTins.cls ≠ "java/lang/invoke/VarHandle" ∧ (parseMethodDescriptor yX2_sweetsInAllTins.desc).map (fun d => d.parameters.length) = some 1 := by decide +kernel

theorem dX2_flavoursAhead_0 : decode cX2_flavoursAhead 0 = .ok (.aload_n 0, 1) := by decide +kernel
theorem dX2_flavoursAhead_1 : decode cX2_flavoursAhead 1 = .ok (.iload_n 1, 1) := by decide +kernel
theorem dX2_flavoursAhead_2 : decode cX2_flavoursAhead 2 = .ok (.invokevirtual 194, 3) := by decide +kernel
theorem dX2_flavoursAhead_5 : decode cX2_flavoursAhead 5 = .ok (.istore_n 2, 1) := by decide +kernel
theorem dX2_flavoursAhead_6 : decode cX2_flavoursAhead 6 = .ok (.iconst 0, 1) := by decide +kernel
theorem dX2_flavoursAhead_7 : decode cX2_flavoursAhead 7 = .ok (.istore_n 3, 1) := by decide +kernel
theorem dX2_flavoursAhead_8 : decode cX2_flavoursAhead 8 = .ok (.iconst 0, 1) := by decide +kernel
theorem dX2_flavoursAhead_9 : decode cX2_flavoursAhead 9 = .ok (.istore 4, 2) := by decide +kernel
theorem dX2_flavoursAhead_11 : decode cX2_flavoursAhead 11 = .ok (.iload 4, 2) := by decide +kernel
theorem dX2_flavoursAhead_13 : decode cX2_flavoursAhead 13 = .ok (.bipush 6, 2) := by decide +kernel
theorem dX2_flavoursAhead_15 : decode cX2_flavoursAhead 15 = .ok (.if_icmp .ge 38, 3) := by decide +kernel
theorem dX2_flavoursAhead_18 : decode cX2_flavoursAhead 18 = .ok (.aload_n 0, 1) := by decide +kernel
theorem dX2_flavoursAhead_19 : decode cX2_flavoursAhead 19 = .ok (.iload 4, 2) := by decide +kernel
theorem dX2_flavoursAhead_21 : decode cX2_flavoursAhead 21 = .ok (.invokevirtual 194, 3) := by decide +kernel
theorem dX2_flavoursAhead_24 : decode cX2_flavoursAhead 24 = .ok (.istore 5, 2) := by decide +kernel
theorem dX2_flavoursAhead_26 : decode cX2_flavoursAhead 26 = .ok (.iload 5, 2) := by decide +kernel
theorem dX2_flavoursAhead_28 : decode cX2_flavoursAhead 28 = .ok (.iload_n 2, 1) := by decide +kernel
theorem dX2_flavoursAhead_29 : decode cX2_flavoursAhead 29 = .ok (.if_icmp .gt 15, 3) := by decide +kernel
theorem dX2_flavoursAhead_32 : decode cX2_flavoursAhead 32 = .ok (.iload 5, 2) := by decide +kernel
theorem dX2_flavoursAhead_34 : decode cX2_flavoursAhead 34 = .ok (.iload_n 2, 1) := by decide +kernel
theorem dX2_flavoursAhead_35 : decode cX2_flavoursAhead 35 = .ok (.if_icmp .ne 12, 3) := by decide +kernel
theorem dX2_flavoursAhead_38 : decode cX2_flavoursAhead 38 = .ok (.iload 4, 2) := by decide +kernel
theorem dX2_flavoursAhead_40 : decode cX2_flavoursAhead 40 = .ok (.iload_n 1, 1) := by decide +kernel
theorem dX2_flavoursAhead_41 : decode cX2_flavoursAhead 41 = .ok (.if_icmp .ge 6, 3) := by decide +kernel
theorem dX2_flavoursAhead_44 : decode cX2_flavoursAhead 44 = .ok (.iinc 3 1, 3) := by decide +kernel
theorem dX2_flavoursAhead_47 : decode cX2_flavoursAhead 47 = .ok (.iinc 4 1, 3) := by decide +kernel
theorem dX2_flavoursAhead_50 : decode cX2_flavoursAhead 50 = .ok (.goto (-39), 3) := by decide +kernel
theorem dX2_flavoursAhead_53 : decode cX2_flavoursAhead 53 = .ok (.iload_n 3, 1) := by decide +kernel
theorem dX2_flavoursAhead_54 : decode cX2_flavoursAhead 54 = .ok (.ireturn, 1) := by decide +kernel
def wp_X2_flavoursAhead_b47 (m : Nat) (x1 : Int32) (K11 : Int32 → Int32 → Int32 → Sg → Prop) (Q : Int32 → Sg → Prop) (v2 : Int32) (v3 : Int32) (v4 : Int32) (σ : Sg) : Prop := ∀ z9 : Int32, z9 = v4 + (1 : Int32) → K11 v2 v3 z9 σ
set_option maxRecDepth 100000 in
set_option maxHeartbeats 4000000 in
theorem g_X2_flavoursAhead_b47 {X : Tx} {Q : Int32 → Sg → Prop} (C : Cx X cX2_flavoursAhead "SweetWraps$Machine" (some .int) 2 45 6 (QI (tE X) Q)) {m : Nat} {x1 : Int32} (hm : m < 11) {K11 : Int32 → Int32 → Int32 → Sg → Prop} (hK11 : ∀ (v2 : Int32) (v3 : Int32) (v4 : Int32) (σ : Sg), K11 v2 v3 v4 σ → G X σ [(0, .ref (ad (tE X) m 0 0)), (1, .int x1), (2, .int v2), (3, .int v3), (4, .int v4)] [] 11) {v2 : Int32} {v3 : Int32} {v4 : Int32} {σ : Sg} (hw : wp_X2_flavoursAhead_b47 m x1 K11 Q v2 v3 v4 σ) : G X σ [(0, .ref (ad (tE X) m 0 0)), (1, .int x1), (2, .int v2), (3, .int v3), (4, .int v4)] [] 47 := by
  unfold wp_X2_flavoursAhead_b47 at hw
  obtain ⟨z9, e_z9⟩ : ∃ z : Int32, z = v4 + (1 : Int32) := ⟨_, rfl⟩
  replace hw := hw z9 e_z9
  refine gx_iinc (v := z9) (lv' := [(4, .int z9), (0, .ref (ad (tE X) m 0 0)), (1, .int x1), (2, .int v2), (3, .int v3)]) C dX2_flavoursAhead_47 4 rfl (by rw [e_z9]; rfl) (by decide) rfl ?_
  refine gx_goto (tgt := 11) C dX2_flavoursAhead_50 (by decide) ?_
  refine gx_sub (lv' := [(0, .ref (ad (tE X) m 0 0)), (1, .int x1), (2, .int v2), (3, .int v3), (4, .int z9)]) [1, 2, 3, 4, 0] rfl ?_
  exact hK11 _ _ _ _ hw
def wp_X2_flavoursAhead_b44 (m : Nat) (x1 : Int32) (K11 : Int32 → Int32 → Int32 → Sg → Prop) (Q : Int32 → Sg → Prop) (v2 : Int32) (v3 : Int32) (v4 : Int32) (σ : Sg) : Prop := ∀ z10 : Int32, z10 = v3 + (1 : Int32) → wp_X2_flavoursAhead_b47 m x1 K11 Q v2 z10 v4 σ
set_option maxRecDepth 100000 in
set_option maxHeartbeats 4000000 in
theorem g_X2_flavoursAhead_b44 {X : Tx} {Q : Int32 → Sg → Prop} (C : Cx X cX2_flavoursAhead "SweetWraps$Machine" (some .int) 2 45 6 (QI (tE X) Q)) {m : Nat} {x1 : Int32} (hm : m < 11) {K11 : Int32 → Int32 → Int32 → Sg → Prop} (hK11 : ∀ (v2 : Int32) (v3 : Int32) (v4 : Int32) (σ : Sg), K11 v2 v3 v4 σ → G X σ [(0, .ref (ad (tE X) m 0 0)), (1, .int x1), (2, .int v2), (3, .int v3), (4, .int v4)] [] 11) {v2 : Int32} {v3 : Int32} {v4 : Int32} {σ : Sg} (hw : wp_X2_flavoursAhead_b44 m x1 K11 Q v2 v3 v4 σ) : G X σ [(0, .ref (ad (tE X) m 0 0)), (1, .int x1), (2, .int v2), (3, .int v3), (4, .int v4)] [] 44 := by
  unfold wp_X2_flavoursAhead_b44 at hw
  obtain ⟨z10, e_z10⟩ : ∃ z : Int32, z = v3 + (1 : Int32) := ⟨_, rfl⟩
  replace hw := hw z10 e_z10
  refine gx_iinc (v := z10) (lv' := [(3, .int z10), (0, .ref (ad (tE X) m 0 0)), (1, .int x1), (2, .int v2), (4, .int v4)]) C dX2_flavoursAhead_44 3 rfl (by rw [e_z10]; rfl) (by decide) rfl ?_
  refine gx_sub (lv' := [(0, .ref (ad (tE X) m 0 0)), (1, .int x1), (2, .int v2), (3, .int z10), (4, .int v4)]) [1, 2, 3, 0, 4] rfl ?_
  exact g_X2_flavoursAhead_b47 C hm hK11 hw
def st_X2_flavoursAhead_L11 (m : Nat) (x1 : Int32) (Q : Int32 → Sg → Prop) (K11 : Int32 → Int32 → Int32 → Sg → Prop) (v2 : Int32) (v3 : Int32) (v4 : Int32) (σ : Sg) : Prop := (((6 : Int32) ≤ v4 → Q v3 σ) ∧ (¬ (6 : Int32) ≤ v4 → wp_X2_sweetsInAllTins m v4 σ (fun r4 σ5 => ((v2 < r4 → wp_X2_flavoursAhead_b44 m x1 K11 Q v2 v3 v4 σ5) ∧ (¬ v2 < r4 → ((¬ r4 = v2 → wp_X2_flavoursAhead_b47 m x1 K11 Q v2 v3 v4 σ5) ∧ (r4 = v2 → ((x1 ≤ v4 → wp_X2_flavoursAhead_b47 m x1 K11 Q v2 v3 v4 σ5) ∧ (¬ x1 ≤ v4 → wp_X2_flavoursAhead_b44 m x1 K11 Q v2 v3 v4 σ5)))))))))
def wp_X2_flavoursAhead_L11 (m : Nat) (x1 : Int32) (Q : Int32 → Sg → Prop) (v2 : Int32) (v3 : Int32) (v4 : Int32) (σ : Sg) : Prop := ∃ n : Nat, lpN (fun (K : Int32 × Int32 × Int32 × Sg → Prop) (a : Int32 × Int32 × Int32 × Sg) => st_X2_flavoursAhead_L11 m x1 Q (fun v2 v3 v4 σ => K (v2, v3, v4, σ)) (a.1) (a.2.1) (a.2.2.1) (a.2.2.2)) n (v2, v3, v4, σ)
set_option maxRecDepth 100000 in
set_option maxHeartbeats 4000000 in
theorem gs_X2_flavoursAhead_L11 {X : Tx} {Q : Int32 → Sg → Prop} (C : Cx X cX2_flavoursAhead "SweetWraps$Machine" (some .int) 2 45 6 (QI (tE X) Q)) {m : Nat} {x1 : Int32} (hm : m < 11) {K11 : Int32 → Int32 → Int32 → Sg → Prop} (hK11 : ∀ (v2 : Int32) (v3 : Int32) (v4 : Int32) (σ : Sg), K11 v2 v3 v4 σ → G X σ [(0, .ref (ad (tE X) m 0 0)), (1, .int x1), (2, .int v2), (3, .int v3), (4, .int v4)] [] 11) {v2 : Int32} {v3 : Int32} {v4 : Int32} {σ : Sg} (hw : st_X2_flavoursAhead_L11 m x1 Q K11 v2 v3 v4 σ) : G X σ [(0, .ref (ad (tE X) m 0 0)), (1, .int x1), (2, .int v2), (3, .int v3), (4, .int v4)] [] 11 := by
  unfold st_X2_flavoursAhead_L11 at hw
  refine gx_iload C dX2_flavoursAhead_11 4 rfl ?_
  refine gx_bipush (v := (6 : Int32)) C dX2_flavoursAhead_13 (by decide) ?_
  refine gx_icmp_ge (tgt := 53) C dX2_flavoursAhead_15 (by decide) (fun c3 => ?_) (fun c3 => ?_)
  · replace hw := hw.1 c3
    refine gx_iload_n C dX2_flavoursAhead_53 3 rfl ?_
    exact gx_iret C rfl rfl dX2_flavoursAhead_54 hw
  · replace hw := hw.2 c3
    refine gx_aload_n C dX2_flavoursAhead_18 0 rfl ?_
    refine gx_iload C dX2_flavoursAhead_19 4 rfl ?_
    refine gx_vcalli (As := [.int v4]) (rest := []) C (c_X2_sweetsInAllTins _ _ hm hw) (ok0 hm) rfl rfl bw_451 bw_453 bs_14 bw_2 bw_454 hy_X2_sweetsInAllTins ⟨by decide, by decide⟩ rfl (Nat.le_of_ble_eq_true rfl) dX2_flavoursAhead_21 (fun r4 σ5 hw => ?_)
    refine gx_istore (lv' := [(5, .int r4), (0, .ref (ad (tE X) m 0 0)), (1, .int x1), (2, .int v2), (3, .int v3), (4, .int v4)]) C dX2_flavoursAhead_24 (by decide) rfl ?_
    refine gx_iload C dX2_flavoursAhead_26 0 rfl ?_
    refine gx_iload_n C dX2_flavoursAhead_28 3 rfl ?_
    refine gx_icmp_gt (tgt := 44) C dX2_flavoursAhead_29 (by decide) (fun c6 => ?_) (fun c6 => ?_)
    · replace hw := hw.1 c6
      refine gx_sub (lv' := [(0, .ref (ad (tE X) m 0 0)), (1, .int x1), (2, .int v2), (3, .int v3), (4, .int v4)]) [1, 2, 3, 4, 5] rfl ?_
      exact g_X2_flavoursAhead_b44 C hm hK11 hw
    · replace hw := hw.2 c6
      refine gx_iload C dX2_flavoursAhead_32 0 rfl ?_
      refine gx_iload_n C dX2_flavoursAhead_34 3 rfl ?_
      refine gx_icmp_ne (tgt := 47) C dX2_flavoursAhead_35 (by decide) (fun c7 => ?_) (fun c7 => ?_)
      · replace hw := hw.1 c7
        refine gx_sub (lv' := [(0, .ref (ad (tE X) m 0 0)), (1, .int x1), (2, .int v2), (3, .int v3), (4, .int v4)]) [1, 2, 3, 4, 5] rfl ?_
        exact g_X2_flavoursAhead_b47 C hm hK11 hw
      · replace hw := hw.2 c7
        refine gx_iload C dX2_flavoursAhead_38 5 rfl ?_
        refine gx_iload_n C dX2_flavoursAhead_40 2 rfl ?_
        refine gx_icmp_ge (tgt := 47) C dX2_flavoursAhead_41 (by decide) (fun c8 => ?_) (fun c8 => ?_)
        · replace hw := hw.1 c8
          refine gx_sub (lv' := [(0, .ref (ad (tE X) m 0 0)), (1, .int x1), (2, .int v2), (3, .int v3), (4, .int v4)]) [1, 2, 3, 4, 5] rfl ?_
          exact g_X2_flavoursAhead_b47 C hm hK11 hw
        · replace hw := hw.2 c8
          refine gx_sub (lv' := [(0, .ref (ad (tE X) m 0 0)), (1, .int x1), (2, .int v2), (3, .int v3), (4, .int v4)]) [1, 2, 3, 4, 5] rfl ?_
          exact g_X2_flavoursAhead_b44 C hm hK11 hw
set_option maxRecDepth 100000 in
set_option maxHeartbeats 4000000 in
theorem g_X2_flavoursAhead_L11 {X : Tx} {Q : Int32 → Sg → Prop} (C : Cx X cX2_flavoursAhead "SweetWraps$Machine" (some .int) 2 45 6 (QI (tE X) Q)) {m : Nat} {x1 : Int32} (hm : m < 11) {v2 : Int32} {v3 : Int32} {v4 : Int32} {σ : Sg} (hw : wp_X2_flavoursAhead_L11 m x1 Q v2 v3 v4 σ) : G X σ [(0, .ref (ad (tE X) m 0 0)), (1, .int x1), (2, .int v2), (3, .int v3), (4, .int v4)] [] 11 := by
  obtain ⟨n, hw⟩ := hw
  exact lpN_G (P := (fun (a : Int32 × Int32 × Int32 × Sg) => G X (a.2.2.2) [(0, .ref (ad (tE X) m 0 0)), (1, .int x1), (2, .int (a.1)), (3, .int (a.2.1)), (4, .int (a.2.2.1))] [] 11)) (fun K a hK h => gs_X2_flavoursAhead_L11 C hm (fun v2 v3 v4 σ h => hK (v2, v3, v4, σ) h) h) n _ hw
def wp_X2_flavoursAhead (m : Nat) (x1 : Int32) (σ : Sg) (Q : Int32 → Sg → Prop) : Prop := wp_X2_sweetsInAllTins m x1 σ (fun r1 σ2 => wp_X2_flavoursAhead_L11 m x1 Q r1 (0 : Int32) (0 : Int32) σ2)
set_option maxRecDepth 100000 in
set_option maxHeartbeats 4000000 in
theorem c_X2_flavoursAhead (l : Launch) (E : Ev) {m : Nat} {x1 : Int32} (hm : m < 11) {σ : Sg} {Q : Int32 → Sg → Prop} (hw : wp_X2_flavoursAhead m x1 σ Q) : CT l E yX2_flavoursAhead cX2_flavoursAhead 6 (some .int) 2 45 [.ref (ad E m 0 0), .int x1] σ (QI E Q) := by
  refine CT_of (by decide) (Nat.le_of_ble_eq_true rfl) (fun X h1 h2 C => ?_)
  subst h1; subst h2
  have C : Cx X cX2_flavoursAhead "SweetWraps$Machine" (some .int) 2 45 6 (QI (tE X) Q) := C
  show G X σ [(0, .ref (ad (tE X) m 0 0)), (1, .int x1)] [] 0
  unfold wp_X2_flavoursAhead at hw
  refine gx_aload_n C dX2_flavoursAhead_0 0 rfl ?_
  refine gx_iload_n C dX2_flavoursAhead_1 1 rfl ?_
  refine gx_vcalli (As := [.int x1]) (rest := []) C (c_X2_sweetsInAllTins _ _ hm hw) (ok0 hm) rfl rfl bw_451 bw_453 bs_14 bw_2 bw_454 hy_X2_sweetsInAllTins ⟨by decide, by decide⟩ rfl (Nat.le_of_ble_eq_true rfl) dX2_flavoursAhead_2 (fun r1 σ2 hw => ?_)
  refine gx_istore_n (lv' := [(2, .int r1), (0, .ref (ad (tE X) m 0 0)), (1, .int x1)]) C dX2_flavoursAhead_5 (by decide) rfl ?_
  refine gx_iconst (v := (0 : Int32)) C dX2_flavoursAhead_6 (by decide) ?_
  refine gx_istore_n (lv' := [(3, .int (0 : Int32)), (2, .int r1), (0, .ref (ad (tE X) m 0 0)), (1, .int x1)]) C dX2_flavoursAhead_7 (by decide) rfl ?_
  refine gx_iconst (v := (0 : Int32)) C dX2_flavoursAhead_8 (by decide) ?_
  refine gx_istore (lv' := [(4, .int (0 : Int32)), (3, .int (0 : Int32)), (2, .int r1), (0, .ref (ad (tE X) m 0 0)), (1, .int x1)]) C dX2_flavoursAhead_9 (by decide) rfl ?_
  refine gx_sub (lv' := [(0, .ref (ad (tE X) m 0 0)), (1, .int x1), (2, .int r1), (3, .int (0 : Int32)), (4, .int (0 : Int32))]) [3, 4, 2, 1, 0] rfl ?_
  exact g_X2_flavoursAhead_L11 C hm hw
theorem hy_X2_flavoursAhead : yX2_flavoursAhead.cls = "SweetWraps$Machine" ∧ yX2_flavoursAhead.cls ≠ "java/lang/invoke/MethodHandle" ∧ yX2_flavoursAhead.cls ≠ "java/lang/invoke/VarHandle" ∧ (parseMethodDescriptor yX2_flavoursAhead.desc).map (fun d => d.parameters.length) = some 1 := by decide +kernel

theorem dX2_flavourOfRank_0 : decode cX2_flavourOfRank 0 = .ok (.iconst 0, 1) := by decide +kernel
theorem dX2_flavourOfRank_1 : decode cX2_flavourOfRank 1 = .ok (.istore_n 2, 1) := by decide +kernel
theorem dX2_flavourOfRank_2 : decode cX2_flavourOfRank 2 = .ok (.iload_n 2, 1) := by decide +kernel
theorem dX2_flavourOfRank_3 : decode cX2_flavourOfRank 3 = .ok (.bipush 6, 2) := by decide +kernel
theorem dX2_flavourOfRank_5 : decode cX2_flavourOfRank 5 = .ok (.if_icmp .ge 28, 3) := by decide +kernel
theorem dX2_flavourOfRank_8 : decode cX2_flavourOfRank 8 = .ok (.aload_n 0, 1) := by decide +kernel
theorem dX2_flavourOfRank_9 : decode cX2_flavourOfRank 9 = .ok (.iload_n 2, 1) := by decide +kernel
theorem dX2_flavourOfRank_10 : decode cX2_flavourOfRank 10 = .ok (.invokevirtual 194, 3) := by decide +kernel
theorem dX2_flavourOfRank_13 : decode cX2_flavourOfRank 13 = .ok (.ifCond .le 14, 3) := by decide +kernel
theorem dX2_flavourOfRank_16 : decode cX2_flavourOfRank 16 = .ok (.aload_n 0, 1) := by decide +kernel
theorem dX2_flavourOfRank_17 : decode cX2_flavourOfRank 17 = .ok (.iload_n 2, 1) := by decide +kernel
theorem dX2_flavourOfRank_18 : decode cX2_flavourOfRank 18 = .ok (.invokevirtual 197, 3) := by decide +kernel
theorem dX2_flavourOfRank_21 : decode cX2_flavourOfRank 21 = .ok (.iload_n 1, 1) := by decide +kernel
theorem dX2_flavourOfRank_22 : decode cX2_flavourOfRank 22 = .ok (.if_icmp .ne 5, 3) := by decide +kernel
theorem dX2_flavourOfRank_25 : decode cX2_flavourOfRank 25 = .ok (.iload_n 2, 1) := by decide +kernel
theorem dX2_flavourOfRank_26 : decode cX2_flavourOfRank 26 = .ok (.ireturn, 1) := by decide +kernel
theorem dX2_flavourOfRank_27 : decode cX2_flavourOfRank 27 = .ok (.iinc 2 1, 3) := by decide +kernel
theorem dX2_flavourOfRank_30 : decode cX2_flavourOfRank 30 = .ok (.goto (-28), 3) := by decide +kernel
theorem dX2_flavourOfRank_33 : decode cX2_flavourOfRank 33 = .ok (.iconst (-1), 1) := by decide +kernel
theorem dX2_flavourOfRank_34 : decode cX2_flavourOfRank 34 = .ok (.ireturn, 1) := by decide +kernel
def wp_X2_flavourOfRank_b27 (m : Nat) (x1 : Int32) (K2 : Int32 → Sg → Prop) (Q : Int32 → Sg → Prop) (v2 : Int32) (σ : Sg) : Prop := ∀ z8 : Int32, z8 = v2 + (1 : Int32) → K2 z8 σ
set_option maxRecDepth 100000 in
set_option maxHeartbeats 4000000 in
theorem g_X2_flavourOfRank_b27 {X : Tx} {Q : Int32 → Sg → Prop} (C : Cx X cX2_flavourOfRank "SweetWraps$Machine" (some .int) 3 70 3 (QI (tE X) Q)) {m : Nat} {x1 : Int32} (hm : m < 11) {K2 : Int32 → Sg → Prop} (hK2 : ∀ (v2 : Int32) (σ : Sg), K2 v2 σ → G X σ [(0, .ref (ad (tE X) m 0 0)), (1, .int x1), (2, .int v2)] [] 2) {v2 : Int32} {σ : Sg} (hw : wp_X2_flavourOfRank_b27 m x1 K2 Q v2 σ) : G X σ [(0, .ref (ad (tE X) m 0 0)), (1, .int x1), (2, .int v2)] [] 27 := by
  unfold wp_X2_flavourOfRank_b27 at hw
  obtain ⟨z8, e_z8⟩ : ∃ z : Int32, z = v2 + (1 : Int32) := ⟨_, rfl⟩
  replace hw := hw z8 e_z8
  refine gx_iinc (v := z8) (lv' := [(2, .int z8), (0, .ref (ad (tE X) m 0 0)), (1, .int x1)]) C dX2_flavourOfRank_27 2 rfl (by rw [e_z8]; rfl) (by decide) rfl ?_
  refine gx_goto (tgt := 2) C dX2_flavourOfRank_30 (by decide) ?_
  refine gx_sub (lv' := [(0, .ref (ad (tE X) m 0 0)), (1, .int x1), (2, .int z8)]) [1, 2, 0] rfl ?_
  exact hK2 _ _ hw
def st_X2_flavourOfRank_L2 (m : Nat) (x1 : Int32) (Q : Int32 → Sg → Prop) (K2 : Int32 → Sg → Prop) (v2 : Int32) (σ : Sg) : Prop := (((6 : Int32) ≤ v2 → Q (-1 : Int32) σ) ∧ (¬ (6 : Int32) ≤ v2 → wp_X2_sweetsInAllTins m v2 σ (fun r2 σ3 => ((r2 ≤ 0 → wp_X2_flavourOfRank_b27 m x1 K2 Q v2 σ3) ∧ (¬ r2 ≤ 0 → wp_X2_flavoursAhead m v2 σ3 (fun r5 σ6 => ((¬ r5 = x1 → wp_X2_flavourOfRank_b27 m x1 K2 Q v2 σ6) ∧ (r5 = x1 → Q v2 σ6))))))))
def wp_X2_flavourOfRank_L2 (m : Nat) (x1 : Int32) (Q : Int32 → Sg → Prop) (v2 : Int32) (σ : Sg) : Prop := ∃ n : Nat, lpN (fun (K : Int32 × Sg → Prop) (a : Int32 × Sg) => st_X2_flavourOfRank_L2 m x1 Q (fun v2 σ => K (v2, σ)) (a.1) (a.2)) n (v2, σ)
set_option maxRecDepth 100000 in
set_option maxHeartbeats 4000000 in
theorem gs_X2_flavourOfRank_L2 {X : Tx} {Q : Int32 → Sg → Prop} (C : Cx X cX2_flavourOfRank "SweetWraps$Machine" (some .int) 3 70 3 (QI (tE X) Q)) {m : Nat} {x1 : Int32} (hm : m < 11) {K2 : Int32 → Sg → Prop} (hK2 : ∀ (v2 : Int32) (σ : Sg), K2 v2 σ → G X σ [(0, .ref (ad (tE X) m 0 0)), (1, .int x1), (2, .int v2)] [] 2) {v2 : Int32} {σ : Sg} (hw : st_X2_flavourOfRank_L2 m x1 Q K2 v2 σ) : G X σ [(0, .ref (ad (tE X) m 0 0)), (1, .int x1), (2, .int v2)] [] 2 := by
  unfold st_X2_flavourOfRank_L2 at hw
  refine gx_iload_n C dX2_flavourOfRank_2 2 rfl ?_
  refine gx_bipush (v := (6 : Int32)) C dX2_flavourOfRank_3 (by decide) ?_
  refine gx_icmp_ge (tgt := 33) C dX2_flavourOfRank_5 (by decide) (fun c1 => ?_) (fun c1 => ?_)
  · replace hw := hw.1 c1
    refine gx_iconst (v := (-1 : Int32)) C dX2_flavourOfRank_33 (by decide) ?_
    exact gx_iret C rfl rfl dX2_flavourOfRank_34 hw
  · replace hw := hw.2 c1
    refine gx_aload_n C dX2_flavourOfRank_8 0 rfl ?_
    refine gx_iload_n C dX2_flavourOfRank_9 2 rfl ?_
    refine gx_vcalli (As := [.int v2]) (rest := []) C (c_X2_sweetsInAllTins _ _ hm hw) (ok0 hm) rfl rfl bw_451 bw_453 bs_14 bw_2 bw_454 hy_X2_sweetsInAllTins ⟨by decide, by decide⟩ rfl (Nat.le_of_ble_eq_true rfl) dX2_flavourOfRank_10 (fun r2 σ3 hw => ?_)
    refine gx_if_le (tgt := 27) C dX2_flavourOfRank_13 (by decide) (fun c4 => ?_) (fun c4 => ?_)
    · replace hw := hw.1 c4
      exact g_X2_flavourOfRank_b27 C hm hK2 hw
    · replace hw := hw.2 c4
      refine gx_aload_n C dX2_flavourOfRank_16 0 rfl ?_
      refine gx_iload_n C dX2_flavourOfRank_17 2 rfl ?_
      refine gx_vcalli (As := [.int v2]) (rest := []) C (c_X2_flavoursAhead _ _ hm hw) (ok0 hm) rfl rfl bw_455 bw_457 bs_15 bw_2 bw_458 hy_X2_flavoursAhead ⟨by decide, by decide⟩ rfl (Nat.le_of_ble_eq_true rfl) dX2_flavourOfRank_18 (fun r5 σ6 hw => ?_)
      refine gx_iload_n C dX2_flavourOfRank_21 1 rfl ?_
      refine gx_icmp_ne (tgt := 27) C dX2_flavourOfRank_22 (by decide) (fun c7 => ?_) (fun c7 => ?_)
      · replace hw := hw.1 c7
        exact g_X2_flavourOfRank_b27 C hm hK2 hw
      · replace hw := hw.2 c7
        refine gx_iload_n C dX2_flavourOfRank_25 2 rfl ?_
        exact gx_iret C rfl rfl dX2_flavourOfRank_26 hw
set_option maxRecDepth 100000 in
set_option maxHeartbeats 4000000 in
theorem g_X2_flavourOfRank_L2 {X : Tx} {Q : Int32 → Sg → Prop} (C : Cx X cX2_flavourOfRank "SweetWraps$Machine" (some .int) 3 70 3 (QI (tE X) Q)) {m : Nat} {x1 : Int32} (hm : m < 11) {v2 : Int32} {σ : Sg} (hw : wp_X2_flavourOfRank_L2 m x1 Q v2 σ) : G X σ [(0, .ref (ad (tE X) m 0 0)), (1, .int x1), (2, .int v2)] [] 2 := by
  obtain ⟨n, hw⟩ := hw
  exact lpN_G (P := (fun (a : Int32 × Sg) => G X (a.2) [(0, .ref (ad (tE X) m 0 0)), (1, .int x1), (2, .int (a.1))] [] 2)) (fun K a hK h => gs_X2_flavourOfRank_L2 C hm (fun v2 σ h => hK (v2, σ) h) h) n _ hw
def wp_X2_flavourOfRank (m : Nat) (x1 : Int32) (σ : Sg) (Q : Int32 → Sg → Prop) : Prop := wp_X2_flavourOfRank_L2 m x1 Q (0 : Int32) σ
set_option maxRecDepth 100000 in
set_option maxHeartbeats 4000000 in
theorem c_X2_flavourOfRank (l : Launch) (E : Ev) {m : Nat} {x1 : Int32} (hm : m < 11) {σ : Sg} {Q : Int32 → Sg → Prop} (hw : wp_X2_flavourOfRank m x1 σ Q) : CT l E yX2_flavourOfRank cX2_flavourOfRank 3 (some .int) 3 70 [.ref (ad E m 0 0), .int x1] σ (QI E Q) := by
  refine CT_of (by decide) (Nat.le_of_ble_eq_true rfl) (fun X h1 h2 C => ?_)
  subst h1; subst h2
  have C : Cx X cX2_flavourOfRank "SweetWraps$Machine" (some .int) 3 70 3 (QI (tE X) Q) := C
  show G X σ [(0, .ref (ad (tE X) m 0 0)), (1, .int x1)] [] 0
  unfold wp_X2_flavourOfRank at hw
  refine gx_iconst (v := (0 : Int32)) C dX2_flavourOfRank_0 (by decide) ?_
  refine gx_istore_n (lv' := [(2, .int (0 : Int32)), (0, .ref (ad (tE X) m 0 0)), (1, .int x1)]) C dX2_flavourOfRank_1 (by decide) rfl ?_
  refine gx_sub (lv' := [(0, .ref (ad (tE X) m 0 0)), (1, .int x1), (2, .int (0 : Int32))]) [1, 2, 0] rfl ?_
  exact g_X2_flavourOfRank_L2 C hm hw
theorem hy_X2_flavourOfRank : yX2_flavourOfRank.cls = "SweetWraps$Machine" ∧ yX2_flavourOfRank.cls ≠ "java/lang/invoke/MethodHandle" ∧ yX2_flavourOfRank.cls ≠ "java/lang/invoke/VarHandle" ∧ (parseMethodDescriptor yX2_flavourOfRank.desc).map (fun d => d.parameters.length) = some 1 := by decide +kernel

theorem dX2_tinsForHoppers_0 : decode cX2_tinsForHoppers 0 = .ok (.aload_n 0, 1) := by decide +kernel
theorem dX2_tinsForHoppers_1 : decode cX2_tinsForHoppers 1 = .ok (.getfield 9, 3) := by decide +kernel
theorem dX2_tinsForHoppers_4 : decode cX2_tinsForHoppers 4 = .ok (.iconst 2, 1) := by decide +kernel
theorem dX2_tinsForHoppers_5 : decode cX2_tinsForHoppers 5 = .ok (.iaload, 1) := by decide +kernel
theorem dX2_tinsForHoppers_6 : decode cX2_tinsForHoppers 6 = .ok (.istore_n 1, 1) := by decide +kernel
theorem dX2_tinsForHoppers_7 : decode cX2_tinsForHoppers 7 = .ok (.iload_n 1, 1) := by decide +kernel
theorem dX2_tinsForHoppers_8 : decode cX2_tinsForHoppers 8 = .ok (.iconst 1, 1) := by decide +kernel
theorem dX2_tinsForHoppers_9 : decode cX2_tinsForHoppers 9 = .ok (.if_icmp .ge 5, 3) := by decide +kernel
theorem dX2_tinsForHoppers_12 : decode cX2_tinsForHoppers 12 = .ok (.iconst 0, 1) := by decide +kernel
theorem dX2_tinsForHoppers_13 : decode cX2_tinsForHoppers 13 = .ok (.ireturn, 1) := by decide +kernel
theorem dX2_tinsForHoppers_14 : decode cX2_tinsForHoppers 14 = .ok (.iconst 0, 1) := by decide +kernel
theorem dX2_tinsForHoppers_15 : decode cX2_tinsForHoppers 15 = .ok (.istore_n 2, 1) := by decide +kernel
theorem dX2_tinsForHoppers_16 : decode cX2_tinsForHoppers 16 = .ok (.iconst 0, 1) := by decide +kernel
theorem dX2_tinsForHoppers_17 : decode cX2_tinsForHoppers 17 = .ok (.istore_n 3, 1) := by decide +kernel
theorem dX2_tinsForHoppers_18 : decode cX2_tinsForHoppers 18 = .ok (.iload_n 3, 1) := by decide +kernel
theorem dX2_tinsForHoppers_19 : decode cX2_tinsForHoppers 19 = .ok (.bipush 6, 2) := by decide +kernel
theorem dX2_tinsForHoppers_21 : decode cX2_tinsForHoppers 21 = .ok (.if_icmp .ge 23, 3) := by decide +kernel
theorem dX2_tinsForHoppers_24 : decode cX2_tinsForHoppers 24 = .ok (.iload_n 2, 1) := by decide +kernel
theorem dX2_tinsForHoppers_25 : decode cX2_tinsForHoppers 25 = .ok (.aload_n 0, 1) := by decide +kernel
theorem dX2_tinsForHoppers_26 : decode cX2_tinsForHoppers 26 = .ok (.iload_n 3, 1) := by decide +kernel
theorem dX2_tinsForHoppers_27 : decode cX2_tinsForHoppers 27 = .ok (.invokevirtual 188, 3) := by decide +kernel
theorem dX2_tinsForHoppers_30 : decode cX2_tinsForHoppers 30 = .ok (.iload_n 1, 1) := by decide +kernel
theorem dX2_tinsForHoppers_31 : decode cX2_tinsForHoppers 31 = .ok (.iadd, 1) := by decide +kernel
theorem dX2_tinsForHoppers_32 : decode cX2_tinsForHoppers 32 = .ok (.iconst 1, 1) := by decide +kernel
theorem dX2_tinsForHoppers_33 : decode cX2_tinsForHoppers 33 = .ok (.isub, 1) := by decide +kernel
theorem dX2_tinsForHoppers_34 : decode cX2_tinsForHoppers 34 = .ok (.iload_n 1, 1) := by decide +kernel
theorem dX2_tinsForHoppers_35 : decode cX2_tinsForHoppers 35 = .ok (.idiv, 1) := by decide +kernel
theorem dX2_tinsForHoppers_36 : decode cX2_tinsForHoppers 36 = .ok (.iadd, 1) := by decide +kernel
theorem dX2_tinsForHoppers_37 : decode cX2_tinsForHoppers 37 = .ok (.istore_n 2, 1) := by decide +kernel
theorem dX2_tinsForHoppers_38 : decode cX2_tinsForHoppers 38 = .ok (.iinc 3 1, 3) := by decide +kernel
theorem dX2_tinsForHoppers_41 : decode cX2_tinsForHoppers 41 = .ok (.goto (-23), 3) := by decide +kernel
theorem dX2_tinsForHoppers_44 : decode cX2_tinsForHoppers 44 = .ok (.iload_n 2, 1) := by decide +kernel
theorem dX2_tinsForHoppers_45 : decode cX2_tinsForHoppers 45 = .ok (.ireturn, 1) := by decide +kernel
def st_X2_tinsForHoppers_L18 (m : Nat) (Q : Int32 → Sg → Prop) (K18 : Int32 → Int32 → Int32 → Sg → Prop) (v1 : Int32) (v2 : Int32) (v3 : Int32) (σ : Sg) : Prop := (((6 : Int32) ≤ v3 → Q v2 σ) ∧ (¬ (6 : Int32) ≤ v3 → wp_X2_sweetsInHoppers m v3 σ (fun r4 σ5 => (¬ v1 = 0 ∧ ∀ z6 : Int32, z6 = (v2 + (((r4 + v1) - (1 : Int32)) / v1)) → ∀ z7 : Int32, z7 = v3 + (1 : Int32) → K18 v1 z6 z7 σ5))))
def wp_X2_tinsForHoppers_L18 (m : Nat) (Q : Int32 → Sg → Prop) (v1 : Int32) (v2 : Int32) (v3 : Int32) (σ : Sg) : Prop := ∃ n : Nat, lpN (fun (K : Int32 × Int32 × Int32 × Sg → Prop) (a : Int32 × Int32 × Int32 × Sg) => st_X2_tinsForHoppers_L18 m Q (fun v1 v2 v3 σ => K (v1, v2, v3, σ)) (a.1) (a.2.1) (a.2.2.1) (a.2.2.2)) n (v1, v2, v3, σ)
set_option maxRecDepth 100000 in
set_option maxHeartbeats 4000000 in
theorem gs_X2_tinsForHoppers_L18 {X : Tx} {Q : Int32 → Sg → Prop} (C : Cx X cX2_tinsForHoppers "SweetWraps$Machine" (some .int) 2 46 4 (QI (tE X) Q)) {m : Nat} (hm : m < 11) {K18 : Int32 → Int32 → Int32 → Sg → Prop} (hK18 : ∀ (v1 : Int32) (v2 : Int32) (v3 : Int32) (σ : Sg), K18 v1 v2 v3 σ → G X σ [(0, .ref (ad (tE X) m 0 0)), (1, .int v1), (2, .int v2), (3, .int v3)] [] 18) {v1 : Int32} {v2 : Int32} {v3 : Int32} {σ : Sg} (hw : st_X2_tinsForHoppers_L18 m Q K18 v1 v2 v3 σ) : G X σ [(0, .ref (ad (tE X) m 0 0)), (1, .int v1), (2, .int v2), (3, .int v3)] [] 18 := by
  unfold st_X2_tinsForHoppers_L18 at hw
  refine gx_iload_n C dX2_tinsForHoppers_18 3 rfl ?_
  refine gx_bipush (v := (6 : Int32)) C dX2_tinsForHoppers_19 (by decide) ?_
  refine gx_icmp_ge (tgt := 44) C dX2_tinsForHoppers_21 (by decide) (fun c3 => ?_) (fun c3 => ?_)
  · replace hw := hw.1 c3
    refine gx_iload_n C dX2_tinsForHoppers_44 2 rfl ?_
    exact gx_iret C rfl rfl dX2_tinsForHoppers_45 hw
  · replace hw := hw.2 c3
    refine gx_iload_n C dX2_tinsForHoppers_24 2 rfl ?_
    refine gx_aload_n C dX2_tinsForHoppers_25 0 rfl ?_
    refine gx_iload_n C dX2_tinsForHoppers_26 3 rfl ?_
    refine gx_vcalli (As := [.int v3]) (rest := [.int v2]) C (c_X2_sweetsInHoppers _ _ hm hw) (ok0 hm) rfl rfl bw_419 bw_421 bs_11 bw_2 bw_422 hy_X2_sweetsInHoppers ⟨by decide, by decide⟩ rfl (Nat.le_of_ble_eq_true rfl) dX2_tinsForHoppers_27 (fun r4 σ5 hw => ?_)
    refine gx_iload_n C dX2_tinsForHoppers_30 1 rfl ?_
    refine gx_iadd C dX2_tinsForHoppers_31 ?_
    refine gx_iconst (v := (1 : Int32)) C dX2_tinsForHoppers_32 (by decide) ?_
    refine gx_isub C dX2_tinsForHoppers_33 ?_
    refine gx_iload_n C dX2_tinsForHoppers_34 1 rfl ?_
    refine gx_idiv C dX2_tinsForHoppers_35 hw.1 ?_
    replace hw := hw.2
    refine gx_iadd C dX2_tinsForHoppers_36 ?_
    obtain ⟨z6, e_z6⟩ : ∃ z : Int32, z = (v2 + (((r4 + v1) - (1 : Int32)) / v1)) := ⟨_, rfl⟩
    replace hw := hw z6 e_z6
    refine gx_top e_z6 ?_
    refine gx_istore_n (lv' := [(2, .int z6), (0, .ref (ad (tE X) m 0 0)), (1, .int v1), (3, .int v3)]) C dX2_tinsForHoppers_37 (by decide) rfl ?_
    obtain ⟨z7, e_z7⟩ : ∃ z : Int32, z = v3 + (1 : Int32) := ⟨_, rfl⟩
    replace hw := hw z7 e_z7
    refine gx_iinc (v := z7) (lv' := [(3, .int z7), (2, .int z6), (0, .ref (ad (tE X) m 0 0)), (1, .int v1)]) C dX2_tinsForHoppers_38 3 rfl (by rw [e_z7]; rfl) (by decide) rfl ?_
    refine gx_goto (tgt := 18) C dX2_tinsForHoppers_41 (by decide) ?_
    refine gx_sub (lv' := [(0, .ref (ad (tE X) m 0 0)), (1, .int v1), (2, .int z6), (3, .int z7)]) [2, 3, 1, 0] rfl ?_
    exact hK18 _ _ _ _ hw
set_option maxRecDepth 100000 in
set_option maxHeartbeats 4000000 in
theorem g_X2_tinsForHoppers_L18 {X : Tx} {Q : Int32 → Sg → Prop} (C : Cx X cX2_tinsForHoppers "SweetWraps$Machine" (some .int) 2 46 4 (QI (tE X) Q)) {m : Nat} (hm : m < 11) {v1 : Int32} {v2 : Int32} {v3 : Int32} {σ : Sg} (hw : wp_X2_tinsForHoppers_L18 m Q v1 v2 v3 σ) : G X σ [(0, .ref (ad (tE X) m 0 0)), (1, .int v1), (2, .int v2), (3, .int v3)] [] 18 := by
  obtain ⟨n, hw⟩ := hw
  exact lpN_G (P := (fun (a : Int32 × Int32 × Int32 × Sg) => G X (a.2.2.2) [(0, .ref (ad (tE X) m 0 0)), (1, .int (a.1)), (2, .int (a.2.1)), (3, .int (a.2.2.1))] [] 18)) (fun K a hK h => gs_X2_tinsForHoppers_L18 C hm (fun v1 v2 v3 σ h => hK (v1, v2, v3, σ) h) h) n _ hw
def wp_X2_tinsForHoppers (m : Nat) (σ : Sg) (Q : Int32 → Sg → Prop) : Prop := ∀ z1 : Int32, z1 = (σ m 1 0 2) → (((1 : Int32) ≤ z1 → wp_X2_tinsForHoppers_L18 m Q z1 (0 : Int32) (0 : Int32) σ) ∧ (¬ (1 : Int32) ≤ z1 → Q (0 : Int32) σ))
set_option maxRecDepth 100000 in
set_option maxHeartbeats 4000000 in
theorem c_X2_tinsForHoppers (l : Launch) (E : Ev) {m : Nat} (hm : m < 11) {σ : Sg} {Q : Int32 → Sg → Prop} (hw : wp_X2_tinsForHoppers m σ Q) : CT l E yX2_tinsForHoppers cX2_tinsForHoppers 4 (some .int) 2 46 [.ref (ad E m 0 0)] σ (QI E Q) := by
  refine CT_of (by decide) (Nat.le_of_ble_eq_true rfl) (fun X h1 h2 C => ?_)
  subst h1; subst h2
  have C : Cx X cX2_tinsForHoppers "SweetWraps$Machine" (some .int) 2 46 4 (QI (tE X) Q) := C
  show G X σ [(0, .ref (ad (tE X) m 0 0))] [] 0
  unfold wp_X2_tinsForHoppers at hw
  refine gx_aload_n C dX2_tinsForHoppers_0 0 rfl ?_
  refine gx_get C (ok0 hm) rfl rfl inX2 (ref := "SweetWraps$Machine") 0 (by decide) bw_93 rfl rfl dX2_tinsForHoppers_1 ?_
  refine gx_iconst (v := (2 : Int32)) C dX2_tinsForHoppers_4 (by decide) ?_
  refine gx_iald C (ok1 hm) rfl (n := 4) (x := (2 : Int32)) (by unfold vp_in; decide) 2 (by decide) dX2_tinsForHoppers_5 ?_
  obtain ⟨z1, e_z1⟩ : ∃ z : Int32, z = (σ m 1 0 2) := ⟨_, rfl⟩
  replace hw := hw z1 e_z1
  refine gx_top e_z1 ?_
  refine gx_istore_n (lv' := [(1, .int z1), (0, .ref (ad (tE X) m 0 0))]) C dX2_tinsForHoppers_6 (by decide) rfl ?_
  refine gx_iload_n C dX2_tinsForHoppers_7 0 rfl ?_
  refine gx_iconst (v := (1 : Int32)) C dX2_tinsForHoppers_8 (by decide) ?_
  refine gx_icmp_ge (tgt := 14) C dX2_tinsForHoppers_9 (by decide) (fun c2 => ?_) (fun c2 => ?_)
  · replace hw := hw.1 c2
    refine gx_iconst (v := (0 : Int32)) C dX2_tinsForHoppers_14 (by decide) ?_
    refine gx_istore_n (lv' := [(2, .int (0 : Int32)), (1, .int z1), (0, .ref (ad (tE X) m 0 0))]) C dX2_tinsForHoppers_15 (by decide) rfl ?_
    refine gx_iconst (v := (0 : Int32)) C dX2_tinsForHoppers_16 (by decide) ?_
    refine gx_istore_n (lv' := [(3, .int (0 : Int32)), (2, .int (0 : Int32)), (1, .int z1), (0, .ref (ad (tE X) m 0 0))]) C dX2_tinsForHoppers_17 (by decide) rfl ?_
    refine gx_sub (lv' := [(0, .ref (ad (tE X) m 0 0)), (1, .int z1), (2, .int (0 : Int32)), (3, .int (0 : Int32))]) [3, 2, 1, 0] rfl ?_
    exact g_X2_tinsForHoppers_L18 C hm hw
  · replace hw := hw.2 c2
    refine gx_iconst (v := (0 : Int32)) C dX2_tinsForHoppers_12 (by decide) ?_
    exact gx_iret C rfl rfl dX2_tinsForHoppers_13 hw
theorem hy_X2_tinsForHoppers : yX2_tinsForHoppers.cls = "SweetWraps$Machine" ∧ yX2_tinsForHoppers.cls ≠ "java/lang/invoke/MethodHandle" ∧ yX2_tinsForHoppers.cls ≠ "java/lang/invoke/VarHandle" ∧ (parseMethodDescriptor yX2_tinsForHoppers.desc).map (fun d => d.parameters.length) = some 0 := by decide +kernel

theorem dX2_number_0 : decode cX2_number 0 = .ok (.iload_n 1, 1) := by decide +kernel
theorem dX2_number_1 : decode cX2_number 1 = .ok (.tableswitch 164 0 14 #[75, 80, 85, 91, 97, 103, 110, 115, 121, 126, 131, 136, 143, 150, 157], 75) := by decide +kernel
theorem dX2_number_76 : decode cX2_number 76 = .ok (.aload_n 0, 1) := by decide +kernel
theorem dX2_number_77 : decode cX2_number 77 = .ok (.getfield 47, 3) := by decide +kernel
theorem dX2_number_80 : decode cX2_number 80 = .ok (.ireturn, 1) := by decide +kernel
theorem dX2_number_81 : decode cX2_number 81 = .ok (.aload_n 0, 1) := by decide +kernel
theorem dX2_number_82 : decode cX2_number 82 = .ok (.getfield 43, 3) := by decide +kernel
theorem dX2_number_85 : decode cX2_number 85 = .ok (.ireturn, 1) := by decide +kernel
theorem dX2_number_86 : decode cX2_number 86 = .ok (.aload_n 0, 1) := by decide +kernel
theorem dX2_number_87 : decode cX2_number 87 = .ok (.iconst 0, 1) := by decide +kernel
theorem dX2_number_88 : decode cX2_number 88 = .ok (.invokevirtual 200, 3) := by decide +kernel
theorem dX2_number_91 : decode cX2_number 91 = .ok (.ireturn, 1) := by decide +kernel
theorem dX2_number_92 : decode cX2_number 92 = .ok (.aload_n 0, 1) := by decide +kernel
theorem dX2_number_93 : decode cX2_number 93 = .ok (.iconst 1, 1) := by decide +kernel
theorem dX2_number_94 : decode cX2_number 94 = .ok (.invokevirtual 200, 3) := by decide +kernel
theorem dX2_number_97 : decode cX2_number 97 = .ok (.ireturn, 1) := by decide +kernel
theorem dX2_number_98 : decode cX2_number 98 = .ok (.aload_n 0, 1) := by decide +kernel
theorem dX2_number_99 : decode cX2_number 99 = .ok (.iconst 0, 1) := by decide +kernel
theorem dX2_number_100 : decode cX2_number 100 = .ok (.invokevirtual 204, 3) := by decide +kernel
theorem dX2_number_103 : decode cX2_number 103 = .ok (.ireturn, 1) := by decide +kernel
theorem dX2_number_104 : decode cX2_number 104 = .ok (.aload_n 0, 1) := by decide +kernel
theorem dX2_number_105 : decode cX2_number 105 = .ok (.bipush 6, 2) := by decide +kernel
theorem dX2_number_107 : decode cX2_number 107 = .ok (.invokevirtual 204, 3) := by decide +kernel
theorem dX2_number_110 : decode cX2_number 110 = .ok (.ireturn, 1) := by decide +kernel
theorem dX2_number_111 : decode cX2_number 111 = .ok (.aload_n 0, 1) := by decide +kernel
theorem dX2_number_112 : decode cX2_number 112 = .ok (.invokevirtual 207, 3) := by decide +kernel
theorem dX2_number_115 : decode cX2_number 115 = .ok (.ireturn, 1) := by decide +kernel
theorem dX2_number_116 : decode cX2_number 116 = .ok (.aload_n 0, 1) := by decide +kernel
theorem dX2_number_117 : decode cX2_number 117 = .ok (.iconst 3, 1) := by decide +kernel
theorem dX2_number_118 : decode cX2_number 118 = .ok (.invokevirtual 204, 3) := by decide +kernel
theorem dX2_number_121 : decode cX2_number 121 = .ok (.ireturn, 1) := by decide +kernel
theorem dX2_number_122 : decode cX2_number 122 = .ok (.aload_n 0, 1) := by decide +kernel
theorem dX2_number_123 : decode cX2_number 123 = .ok (.getfield 50, 3) := by decide +kernel
theorem dX2_number_126 : decode cX2_number 126 = .ok (.ireturn, 1) := by decide +kernel
theorem dX2_number_127 : decode cX2_number 127 = .ok (.aload_n 0, 1) := by decide +kernel
theorem dX2_number_128 : decode cX2_number 128 = .ok (.getfield 53, 3) := by decide +kernel
theorem dX2_number_131 : decode cX2_number 131 = .ok (.ireturn, 1) := by decide +kernel
theorem dX2_number_132 : decode cX2_number 132 = .ok (.aload_n 0, 1) := by decide +kernel
theorem dX2_number_133 : decode cX2_number 133 = .ok (.invokevirtual 210, 3) := by decide +kernel
theorem dX2_number_136 : decode cX2_number 136 = .ok (.ireturn, 1) := by decide +kernel
theorem dX2_number_137 : decode cX2_number 137 = .ok (.aload_n 0, 1) := by decide +kernel
theorem dX2_number_138 : decode cX2_number 138 = .ok (.getfield 9, 3) := by decide +kernel
theorem dX2_number_141 : decode cX2_number 141 = .ok (.iconst 0, 1) := by decide +kernel
theorem dX2_number_142 : decode cX2_number 142 = .ok (.iaload, 1) := by decide +kernel
theorem dX2_number_143 : decode cX2_number 143 = .ok (.ireturn, 1) := by decide +kernel
theorem dX2_number_144 : decode cX2_number 144 = .ok (.aload_n 0, 1) := by decide +kernel
theorem dX2_number_145 : decode cX2_number 145 = .ok (.getfield 9, 3) := by decide +kernel
theorem dX2_number_148 : decode cX2_number 148 = .ok (.iconst 1, 1) := by decide +kernel
theorem dX2_number_149 : decode cX2_number 149 = .ok (.iaload, 1) := by decide +kernel
theorem dX2_number_150 : decode cX2_number 150 = .ok (.ireturn, 1) := by decide +kernel
theorem dX2_number_151 : decode cX2_number 151 = .ok (.aload_n 0, 1) := by decide +kernel
theorem dX2_number_152 : decode cX2_number 152 = .ok (.getfield 9, 3) := by decide +kernel
theorem dX2_number_155 : decode cX2_number 155 = .ok (.iconst 2, 1) := by decide +kernel
theorem dX2_number_156 : decode cX2_number 156 = .ok (.iaload, 1) := by decide +kernel
theorem dX2_number_157 : decode cX2_number 157 = .ok (.ireturn, 1) := by decide +kernel
theorem dX2_number_158 : decode cX2_number 158 = .ok (.aload_n 0, 1) := by decide +kernel
theorem dX2_number_159 : decode cX2_number 159 = .ok (.getfield 9, 3) := by decide +kernel
theorem dX2_number_162 : decode cX2_number 162 = .ok (.iconst 3, 1) := by decide +kernel
theorem dX2_number_163 : decode cX2_number 163 = .ok (.iaload, 1) := by decide +kernel
theorem dX2_number_164 : decode cX2_number 164 = .ok (.ireturn, 1) := by decide +kernel
theorem dX2_number_165 : decode cX2_number 165 = .ok (.bipush (-2), 2) := by decide +kernel
theorem dX2_number_167 : decode cX2_number 167 = .ok (.ireturn, 1) := by decide +kernel
def wp_X2_number (m : Nat) (x1 : Int32) (σ : Sg) (Q : Int32 → Sg → Prop) : Prop := ((x1 = (0 : Int32) → Q (σ m 0 0 5) σ) ∧ (¬ x1 = (0 : Int32) → ((x1 = (1 : Int32) → Q (σ m 0 0 4) σ) ∧ (¬ x1 = (1 : Int32) → ((x1 = (2 : Int32) → wp_X2_tinsThatAre m (0 : Int32) σ (fun r16 σ17 => Q r16 σ17)) ∧ (¬ x1 = (2 : Int32) → ((x1 = (3 : Int32) → wp_X2_tinsThatAre m (1 : Int32) σ (fun r18 σ19 => Q r18 σ19)) ∧ (¬ x1 = (3 : Int32) → ((x1 = (4 : Int32) → wp_X2_overLanes m (0 : Int32) σ (fun r20 σ21 => Q r20 σ21)) ∧ (¬ x1 = (4 : Int32) → ((x1 = (5 : Int32) → wp_X2_overLanes m (6 : Int32) σ (fun r22 σ23 => Q r22 σ23)) ∧ (¬ x1 = (5 : Int32) → ((x1 = (6 : Int32) → wp_X2_sweetsShipped m σ (fun r24 σ25 => Q r24 σ25)) ∧ (¬ x1 = (6 : Int32) → ((x1 = (7 : Int32) → wp_X2_overLanes m (3 : Int32) σ (fun r26 σ27 => Q r26 σ27)) ∧ (¬ x1 = (7 : Int32) → ((x1 = (8 : Int32) → Q (σ m 0 0 6) σ) ∧ (¬ x1 = (8 : Int32) → ((x1 = (9 : Int32) → Q (σ m 0 0 7) σ) ∧ (¬ x1 = (9 : Int32) → ((x1 = (10 : Int32) → wp_X2_standingLanes m σ (fun r28 σ29 => Q r28 σ29)) ∧ (¬ x1 = (10 : Int32) → ((x1 = (11 : Int32) → Q (σ m 1 0 0) σ) ∧ (¬ x1 = (11 : Int32) → ((x1 = (12 : Int32) → Q (σ m 1 0 1) σ) ∧ (¬ x1 = (12 : Int32) → ((x1 = (13 : Int32) → Q (σ m 1 0 2) σ) ∧ (¬ x1 = (13 : Int32) → ((x1 = (14 : Int32) → Q (σ m 1 0 3) σ) ∧ (¬ x1 = (14 : Int32) → Q (-2 : Int32) σ))))))))))))))))))))))))))))))
set_option maxRecDepth 100000 in
set_option maxHeartbeats 4000000 in
theorem c_X2_number (l : Launch) (E : Ev) {m : Nat} {x1 : Int32} (hm : m < 11) {σ : Sg} {Q : Int32 → Sg → Prop} (hw : wp_X2_number m x1 σ Q) : CT l E yX2_number cX2_number 2 (some .int) 6 129 [.ref (ad E m 0 0), .int x1] σ (QI E Q) := by
  refine CT_of (by decide) (Nat.le_of_ble_eq_true rfl) (fun X h1 h2 C => ?_)
  subst h1; subst h2
  have C : Cx X cX2_number "SweetWraps$Machine" (some .int) 6 129 2 (QI (tE X) Q) := C
  show G X σ [(0, .ref (ad (tE X) m 0 0)), (1, .int x1)] [] 0
  unfold wp_X2_number at hw
  refine gx_iload_n C dX2_number_0 1 rfl ?_
  by_cases c1 : x1 = (0 : Int32)
  · replace hw := hw.1 c1
    refine gx_table (tgt := 76) (off := 75) C dX2_number_1 (0 : Int32) c1 (by decide) (by decide) rfl (by decide) ?_
    refine gx_aload_n C dX2_number_76 0 rfl ?_
    refine gx_get C (ok0 hm) rfl rfl inX2 (ref := "SweetWraps$Machine") 5 (by decide) bw_101 rfl rfl dX2_number_77 ?_
    exact gx_iret C rfl rfl dX2_number_80 hw
  · replace hw := hw.2 c1
    by_cases c2 : x1 = (1 : Int32)
    · replace hw := hw.1 c2
      refine gx_table (tgt := 81) (off := 80) C dX2_number_1 (1 : Int32) c2 (by decide) (by decide) rfl (by decide) ?_
      refine gx_aload_n C dX2_number_81 0 rfl ?_
      refine gx_get C (ok0 hm) rfl rfl inX2 (ref := "SweetWraps$Machine") 4 (by decide) bw_99 rfl rfl dX2_number_82 ?_
      exact gx_iret C rfl rfl dX2_number_85 hw
    · replace hw := hw.2 c2
      by_cases c3 : x1 = (2 : Int32)
      · replace hw := hw.1 c3
        refine gx_table (tgt := 86) (off := 85) C dX2_number_1 (2 : Int32) c3 (by decide) (by decide) rfl (by decide) ?_
        refine gx_aload_n C dX2_number_86 0 rfl ?_
        refine gx_iconst (v := (0 : Int32)) C dX2_number_87 (by decide) ?_
        refine gx_vcalli (As := [.int (0 : Int32)]) (rest := []) C (c_X2_tinsThatAre _ _ hm hw) (ok0 hm) rfl rfl bw_467 bw_469 bs_16 bw_2 bw_470 hy_X2_tinsThatAre ⟨by decide, by decide⟩ rfl (Nat.le_of_ble_eq_true rfl) dX2_number_88 (fun r16 σ17 hw => ?_)
        exact gx_iret C rfl rfl dX2_number_91 hw
      · replace hw := hw.2 c3
        by_cases c4 : x1 = (3 : Int32)
        · replace hw := hw.1 c4
          refine gx_table (tgt := 92) (off := 91) C dX2_number_1 (3 : Int32) c4 (by decide) (by decide) rfl (by decide) ?_
          refine gx_aload_n C dX2_number_92 0 rfl ?_
          refine gx_iconst (v := (1 : Int32)) C dX2_number_93 (by decide) ?_
          refine gx_vcalli (As := [.int (1 : Int32)]) (rest := []) C (c_X2_tinsThatAre _ _ hm hw) (ok0 hm) rfl rfl bw_467 bw_469 bs_16 bw_2 bw_470 hy_X2_tinsThatAre ⟨by decide, by decide⟩ rfl (Nat.le_of_ble_eq_true rfl) dX2_number_94 (fun r18 σ19 hw => ?_)
          exact gx_iret C rfl rfl dX2_number_97 hw
        · replace hw := hw.2 c4
          by_cases c5 : x1 = (4 : Int32)
          · replace hw := hw.1 c5
            refine gx_table (tgt := 98) (off := 97) C dX2_number_1 (4 : Int32) c5 (by decide) (by decide) rfl (by decide) ?_
            refine gx_aload_n C dX2_number_98 0 rfl ?_
            refine gx_iconst (v := (0 : Int32)) C dX2_number_99 (by decide) ?_
            refine gx_vcalli (As := [.int (0 : Int32)]) (rest := []) C (c_X2_overLanes _ _ hm hw) (ok0 hm) rfl rfl bw_471 bw_473 bs_17 bw_2 bw_474 hy_X2_overLanes ⟨by decide, by decide⟩ rfl (Nat.le_of_ble_eq_true rfl) dX2_number_100 (fun r20 σ21 hw => ?_)
            exact gx_iret C rfl rfl dX2_number_103 hw
          · replace hw := hw.2 c5
            by_cases c6 : x1 = (5 : Int32)
            · replace hw := hw.1 c6
              refine gx_table (tgt := 104) (off := 103) C dX2_number_1 (5 : Int32) c6 (by decide) (by decide) rfl (by decide) ?_
              refine gx_aload_n C dX2_number_104 0 rfl ?_
              refine gx_bipush (v := (6 : Int32)) C dX2_number_105 (by decide) ?_
              refine gx_vcalli (As := [.int (6 : Int32)]) (rest := []) C (c_X2_overLanes _ _ hm hw) (ok0 hm) rfl rfl bw_471 bw_473 bs_17 bw_2 bw_474 hy_X2_overLanes ⟨by decide, by decide⟩ rfl (Nat.le_of_ble_eq_true rfl) dX2_number_107 (fun r22 σ23 hw => ?_)
              exact gx_iret C rfl rfl dX2_number_110 hw
            · replace hw := hw.2 c6
              by_cases c7 : x1 = (6 : Int32)
              · replace hw := hw.1 c7
                refine gx_table (tgt := 111) (off := 110) C dX2_number_1 (6 : Int32) c7 (by decide) (by decide) rfl (by decide) ?_
                refine gx_aload_n C dX2_number_111 0 rfl ?_
                refine gx_vcalli (As := []) (rest := []) C (c_X2_sweetsShipped _ _ hm hw) (ok0 hm) rfl rfl bw_476 bw_478 bs_18 bw_2 bw_479 hy_X2_sweetsShipped ⟨by decide, by decide⟩ rfl (Nat.le_of_ble_eq_true rfl) dX2_number_112 (fun r24 σ25 hw => ?_)
                exact gx_iret C rfl rfl dX2_number_115 hw
              · replace hw := hw.2 c7
                by_cases c8 : x1 = (7 : Int32)
                · replace hw := hw.1 c8
                  refine gx_table (tgt := 116) (off := 115) C dX2_number_1 (7 : Int32) c8 (by decide) (by decide) rfl (by decide) ?_
                  refine gx_aload_n C dX2_number_116 0 rfl ?_
                  refine gx_iconst (v := (3 : Int32)) C dX2_number_117 (by decide) ?_
                  refine gx_vcalli (As := [.int (3 : Int32)]) (rest := []) C (c_X2_overLanes _ _ hm hw) (ok0 hm) rfl rfl bw_471 bw_473 bs_17 bw_2 bw_474 hy_X2_overLanes ⟨by decide, by decide⟩ rfl (Nat.le_of_ble_eq_true rfl) dX2_number_118 (fun r26 σ27 hw => ?_)
                  exact gx_iret C rfl rfl dX2_number_121 hw
                · replace hw := hw.2 c8
                  by_cases c9 : x1 = (8 : Int32)
                  · replace hw := hw.1 c9
                    refine gx_table (tgt := 122) (off := 121) C dX2_number_1 (8 : Int32) c9 (by decide) (by decide) rfl (by decide) ?_
                    refine gx_aload_n C dX2_number_122 0 rfl ?_
                    refine gx_get C (ok0 hm) rfl rfl inX2 (ref := "SweetWraps$Machine") 6 (by decide) bw_102 rfl rfl dX2_number_123 ?_
                    exact gx_iret C rfl rfl dX2_number_126 hw
                  · replace hw := hw.2 c9
                    by_cases c10 : x1 = (9 : Int32)
                    · replace hw := hw.1 c10
                      refine gx_table (tgt := 127) (off := 126) C dX2_number_1 (9 : Int32) c10 (by decide) (by decide) rfl (by decide) ?_
                      refine gx_aload_n C dX2_number_127 0 rfl ?_
                      refine gx_get C (ok0 hm) rfl rfl inX2 (ref := "SweetWraps$Machine") 7 (by decide) bw_103 rfl rfl dX2_number_128 ?_
                      exact gx_iret C rfl rfl dX2_number_131 hw
                    · replace hw := hw.2 c10
                      by_cases c11 : x1 = (10 : Int32)
                      · replace hw := hw.1 c11
                        refine gx_table (tgt := 132) (off := 131) C dX2_number_1 (10 : Int32) c11 (by decide) (by decide) rfl (by decide) ?_
                        refine gx_aload_n C dX2_number_132 0 rfl ?_
                        refine gx_vcalli (As := []) (rest := []) C (c_X2_standingLanes _ _ hm hw) (ok0 hm) rfl rfl bw_480 bw_482 bs_19 bw_2 bw_483 hy_X2_standingLanes ⟨by decide, by decide⟩ rfl (Nat.le_of_ble_eq_true rfl) dX2_number_133 (fun r28 σ29 hw => ?_)
                        exact gx_iret C rfl rfl dX2_number_136 hw
                      · replace hw := hw.2 c11
                        by_cases c12 : x1 = (11 : Int32)
                        · replace hw := hw.1 c12
                          refine gx_table (tgt := 137) (off := 136) C dX2_number_1 (11 : Int32) c12 (by decide) (by decide) rfl (by decide) ?_
                          refine gx_aload_n C dX2_number_137 0 rfl ?_
                          refine gx_get C (ok0 hm) rfl rfl inX2 (ref := "SweetWraps$Machine") 0 (by decide) bw_93 rfl rfl dX2_number_138 ?_
                          refine gx_iconst (v := (0 : Int32)) C dX2_number_141 (by decide) ?_
                          refine gx_iald C (ok1 hm) rfl (n := 4) (x := (0 : Int32)) (by unfold vp_in; decide) 0 (by decide) dX2_number_142 ?_
                          exact gx_iret C rfl rfl dX2_number_143 hw
                        · replace hw := hw.2 c12
                          by_cases c13 : x1 = (12 : Int32)
                          · replace hw := hw.1 c13
                            refine gx_table (tgt := 144) (off := 143) C dX2_number_1 (12 : Int32) c13 (by decide) (by decide) rfl (by decide) ?_
                            refine gx_aload_n C dX2_number_144 0 rfl ?_
                            refine gx_get C (ok0 hm) rfl rfl inX2 (ref := "SweetWraps$Machine") 0 (by decide) bw_93 rfl rfl dX2_number_145 ?_
                            refine gx_iconst (v := (1 : Int32)) C dX2_number_148 (by decide) ?_
                            refine gx_iald C (ok1 hm) rfl (n := 4) (x := (1 : Int32)) (by unfold vp_in; decide) 1 (by decide) dX2_number_149 ?_
                            exact gx_iret C rfl rfl dX2_number_150 hw
                          · replace hw := hw.2 c13
                            by_cases c14 : x1 = (13 : Int32)
                            · replace hw := hw.1 c14
                              refine gx_table (tgt := 151) (off := 150) C dX2_number_1 (13 : Int32) c14 (by decide) (by decide) rfl (by decide) ?_
                              refine gx_aload_n C dX2_number_151 0 rfl ?_
                              refine gx_get C (ok0 hm) rfl rfl inX2 (ref := "SweetWraps$Machine") 0 (by decide) bw_93 rfl rfl dX2_number_152 ?_
                              refine gx_iconst (v := (2 : Int32)) C dX2_number_155 (by decide) ?_
                              refine gx_iald C (ok1 hm) rfl (n := 4) (x := (2 : Int32)) (by unfold vp_in; decide) 2 (by decide) dX2_number_156 ?_
                              exact gx_iret C rfl rfl dX2_number_157 hw
                            · replace hw := hw.2 c14
                              by_cases c15 : x1 = (14 : Int32)
                              · replace hw := hw.1 c15
                                refine gx_table (tgt := 158) (off := 157) C dX2_number_1 (14 : Int32) c15 (by decide) (by decide) rfl (by decide) ?_
                                refine gx_aload_n C dX2_number_158 0 rfl ?_
                                refine gx_get C (ok0 hm) rfl rfl inX2 (ref := "SweetWraps$Machine") 0 (by decide) bw_93 rfl rfl dX2_number_159 ?_
                                refine gx_iconst (v := (3 : Int32)) C dX2_number_162 (by decide) ?_
                                refine gx_iald C (ok1 hm) rfl (n := 4) (x := (3 : Int32)) (by unfold vp_in; decide) 3 (by decide) dX2_number_163 ?_
                                exact gx_iret C rfl rfl dX2_number_164 hw
                              · replace hw := hw.2 c15
                                refine gx_tableD (tgt := 165) C dX2_number_1 (by decide) [((75 : Int), (0 : Nat)), ((80 : Int), (1 : Nat)), ((85 : Int), (2 : Nat)), ((91 : Int), (3 : Nat)), ((97 : Int), (4 : Nat)), ((103 : Int), (5 : Nat)), ((110 : Int), (6 : Nat)), ((115 : Int), (7 : Nat)), ((121 : Int), (8 : Nat)), ((126 : Int), (9 : Nat)), ((131 : Int), (10 : Nat)), ((136 : Int), (11 : Nat)), ((143 : Int), (12 : Nat)), ((150 : Int), (13 : Nat)), ((157 : Int), (14 : Nat))] rfl (List.forall_mem_cons.mpr ⟨Or.inr ⟨(0 : Int32), c1, by decide⟩, List.forall_mem_cons.mpr ⟨Or.inr ⟨(1 : Int32), c2, by decide⟩, List.forall_mem_cons.mpr ⟨Or.inr ⟨(2 : Int32), c3, by decide⟩, List.forall_mem_cons.mpr ⟨Or.inr ⟨(3 : Int32), c4, by decide⟩, List.forall_mem_cons.mpr ⟨Or.inr ⟨(4 : Int32), c5, by decide⟩, List.forall_mem_cons.mpr ⟨Or.inr ⟨(5 : Int32), c6, by decide⟩, List.forall_mem_cons.mpr ⟨Or.inr ⟨(6 : Int32), c7, by decide⟩, List.forall_mem_cons.mpr ⟨Or.inr ⟨(7 : Int32), c8, by decide⟩, List.forall_mem_cons.mpr ⟨Or.inr ⟨(8 : Int32), c9, by decide⟩, List.forall_mem_cons.mpr ⟨Or.inr ⟨(9 : Int32), c10, by decide⟩, List.forall_mem_cons.mpr ⟨Or.inr ⟨(10 : Int32), c11, by decide⟩, List.forall_mem_cons.mpr ⟨Or.inr ⟨(11 : Int32), c12, by decide⟩, List.forall_mem_cons.mpr ⟨Or.inr ⟨(12 : Int32), c13, by decide⟩, List.forall_mem_cons.mpr ⟨Or.inr ⟨(13 : Int32), c14, by decide⟩, List.forall_mem_cons.mpr ⟨Or.inr ⟨(14 : Int32), c15, by decide⟩, fun _ h => absurd h List.not_mem_nil⟩⟩⟩⟩⟩⟩⟩⟩⟩⟩⟩⟩⟩⟩⟩) (by decide) ?_
                                refine gx_bipush (v := (-2 : Int32)) C dX2_number_165 (by decide) ?_
                                exact gx_iret C rfl rfl dX2_number_167 hw
theorem hy_X2_number : yX2_number.cls = "SweetWraps$Machine" ∧ yX2_number.cls ≠ "java/lang/invoke/MethodHandle" ∧ yX2_number.cls ≠ "java/lang/invoke/VarHandle" ∧ (parseMethodDescriptor yX2_number.desc).map (fun d => d.parameters.length) = some 1 := by decide +kernel
end
section
theorem dJ0_coder_7d493_0 : decode cJ0_coder_7d493 0 = .ok (.getstatic 38, 3) := by decide +kernel
theorem dJ0_coder_7d493_3 : decode cJ0_coder_7d493 3 = .ok (.ifCond .eq 10, 3) := by decide +kernel
theorem dJ0_coder_7d493_6 : decode cJ0_coder_7d493 6 = .ok (.aload_n 0, 1) := by decide +kernel
theorem dJ0_coder_7d493_7 : decode cJ0_coder_7d493 7 = .ok (.getfield 15, 3) := by decide +kernel
theorem dJ0_coder_7d493_10 : decode cJ0_coder_7d493 10 = .ok (.goto 4, 3) := by decide +kernel
theorem dJ0_coder_7d493_14 : decode cJ0_coder_7d493 14 = .ok (.ireturn, 1) := by decide +kernel
def wp_J0_coder_7d493 (j : Nat) (σ : Sg) (Q : Int32 → Sg → Prop) : Prop := Q (0 : Int32) σ
set_option maxRecDepth 100000 in
set_option maxHeartbeats 4000000 in
theorem c_J0_coder_7d493 (l : Launch) (E : Ev) {j : Nat} (hj : j < 7) {σ : Sg} {Q : Int32 → Sg → Prop} (hw : wp_J0_coder_7d493 j σ Q) : CT l E yJ0_coder_7d493 cJ0_coder_7d493 1 (some .byte) 0 0 [.ref (eK E j)] σ (QI E Q) := by
  refine CT_of (by decide) (Nat.le_of_ble_eq_true rfl) (fun X h1 h2 C => ?_)
  subst h1; subst h2
  have C : Cx X cJ0_coder_7d493 "java/lang/String" (some .byte) 0 0 1 (QI (tE X) Q) := C
  show G X σ [(0, .ref (eK (tE X) j))] [] 0
  unfold wp_J0_coder_7d493 at hw
  refine gx_compact C bw_571 dJ0_coder_7d493_0 ?_
  refine gx_if_eq (tgt := 13) C dJ0_coder_7d493_3 (by decide) (fun c1 => ?_) (fun c1 => ?_)
  · exact absurd c1 (by decide)
  · skip
    refine gx_aload_n C dJ0_coder_7d493_6 0 rfl ?_
    refine gx_coder C hj bw_986 dJ0_coder_7d493_7 ?_
    refine gx_goto (tgt := 14) C dJ0_coder_7d493_10 (by decide) ?_
    exact gx_iret C rfl rfl dJ0_coder_7d493_14 hw
theorem hy_J0_coder_7d493 : yJ0_coder_7d493.cls = "java/lang/String" ∧ yJ0_coder_7d493.cls ≠ "java/lang/invoke/MethodHandle" ∧ yJ0_coder_7d493.cls ≠ "java/lang/invoke/VarHandle" ∧ (parseMethodDescriptor yJ0_coder_7d493.desc).map (fun d => d.parameters.length) = some 0 := by decide +kernel

theorem dJ0_length_8abf5_0 : decode cJ0_length_8abf5 0 = .ok (.aload_n 0, 1) := by decide +kernel
theorem dJ0_length_8abf5_1 : decode cJ0_length_8abf5 1 = .ok (.getfield 9, 3) := by decide +kernel
theorem dJ0_length_8abf5_4 : decode cJ0_length_8abf5 4 = .ok (.arraylength, 1) := by decide +kernel
theorem dJ0_length_8abf5_5 : decode cJ0_length_8abf5 5 = .ok (.aload_n 0, 1) := by decide +kernel
theorem dJ0_length_8abf5_6 : decode cJ0_length_8abf5 6 = .ok (.invokevirtual 335, 3) := by decide +kernel
theorem dJ0_length_8abf5_9 : decode cJ0_length_8abf5 9 = .ok (.ishr, 1) := by decide +kernel
theorem dJ0_length_8abf5_10 : decode cJ0_length_8abf5 10 = .ok (.ireturn, 1) := by decide +kernel
def wp_J0_length_8abf5 (j : Nat) (σ : Sg) (Q : Int32 → Sg → Prop) : Prop := wp_J0_coder_7d493 j σ (fun r1 σ2 => Q ((nI (scL.getD j 0)) >>> (r1 &&& 31)) σ2)
set_option maxRecDepth 100000 in
set_option maxHeartbeats 4000000 in
theorem c_J0_length_8abf5 (l : Launch) (E : Ev) {j : Nat} (hj : j < 7) {σ : Sg} {Q : Int32 → Sg → Prop} (hw : wp_J0_length_8abf5 j σ Q) : CT l E yJ0_length_8abf5 cJ0_length_8abf5 1 (some .int) 1 20 [.ref (eK E j)] σ (QI E Q) := by
  refine CT_of (by decide) (Nat.le_of_ble_eq_true rfl) (fun X h1 h2 C => ?_)
  subst h1; subst h2
  have C : Cx X cJ0_length_8abf5 "java/lang/String" (some .int) 1 20 1 (QI (tE X) Q) := C
  show G X σ [(0, .ref (eK (tE X) j))] [] 0
  unfold wp_J0_length_8abf5 at hw
  refine gx_aload_n C dJ0_length_8abf5_0 0 rfl ?_
  refine gx_value C hj bw_985 dJ0_length_8abf5_1 ?_
  refine gx_vlen C hj dJ0_length_8abf5_4 ?_
  refine gx_aload_n C dJ0_length_8abf5_5 0 rfl ?_
  refine gx_kcalli (As := []) (rest := [.int (nI (scL.getD j 0))]) C hj (c_J0_coder_7d493 _ _ hj hw) bw_567 bw_568 bw_569 bw_10 bw_570 hy_J0_coder_7d493 ⟨by decide, by decide⟩ rfl (Nat.le_of_ble_eq_true rfl) dJ0_length_8abf5_6 (fun r1 σ2 hw => ?_)
  refine gx_ishr C dJ0_length_8abf5_9 ?_
  exact gx_iret C rfl rfl dJ0_length_8abf5_10 hw
theorem hy_J0_length_8abf5 : yJ0_length_8abf5.cls = "java/lang/String" ∧ yJ0_length_8abf5.cls ≠ "java/lang/invoke/MethodHandle" ∧ yJ0_length_8abf5.cls ≠ "java/lang/invoke/VarHandle" ∧ (parseMethodDescriptor yJ0_length_8abf5.desc).map (fun d => d.parameters.length) = some 0 := by decide +kernel

theorem dJ0_isLatin1_aae02_0 : decode cJ0_isLatin1_aae02 0 = .ok (.getstatic 38, 3) := by decide +kernel
theorem dJ0_isLatin1_aae02_3 : decode cJ0_isLatin1_aae02 3 = .ok (.ifCond .eq 14, 3) := by decide +kernel
theorem dJ0_isLatin1_aae02_6 : decode cJ0_isLatin1_aae02 6 = .ok (.aload_n 0, 1) := by decide +kernel
theorem dJ0_isLatin1_aae02_7 : decode cJ0_isLatin1_aae02 7 = .ok (.getfield 15, 3) := by decide +kernel
theorem dJ0_isLatin1_aae02_10 : decode cJ0_isLatin1_aae02 10 = .ok (.ifCond .ne 7, 3) := by decide +kernel
theorem dJ0_isLatin1_aae02_13 : decode cJ0_isLatin1_aae02 13 = .ok (.iconst 1, 1) := by decide +kernel
theorem dJ0_isLatin1_aae02_14 : decode cJ0_isLatin1_aae02 14 = .ok (.goto 4, 3) := by decide +kernel
theorem dJ0_isLatin1_aae02_18 : decode cJ0_isLatin1_aae02 18 = .ok (.ireturn, 1) := by decide +kernel
def wp_J0_isLatin1_aae02 (j : Nat) (σ : Sg) (Q : Int32 → Sg → Prop) : Prop := Q (1 : Int32) σ
set_option maxRecDepth 100000 in
set_option maxHeartbeats 4000000 in
theorem c_J0_isLatin1_aae02 (l : Launch) (E : Ev) {j : Nat} (hj : j < 7) {σ : Sg} {Q : Int32 → Sg → Prop} (hw : wp_J0_isLatin1_aae02 j σ Q) : CT l E yJ0_isLatin1_aae02 cJ0_isLatin1_aae02 1 (some .boolean) 0 0 [.ref (eK E j)] σ (QI E Q) := by
  refine CT_of (by decide) (Nat.le_of_ble_eq_true rfl) (fun X h1 h2 C => ?_)
  subst h1; subst h2
  have C : Cx X cJ0_isLatin1_aae02 "java/lang/String" (some .boolean) 0 0 1 (QI (tE X) Q) := C
  show G X σ [(0, .ref (eK (tE X) j))] [] 0
  unfold wp_J0_isLatin1_aae02 at hw
  refine gx_compact C bw_571 dJ0_isLatin1_aae02_0 ?_
  refine gx_if_eq (tgt := 17) C dJ0_isLatin1_aae02_3 (by decide) (fun c1 => ?_) (fun c1 => ?_)
  · exact absurd c1 (by decide)
  · skip
    refine gx_aload_n C dJ0_isLatin1_aae02_6 0 rfl ?_
    refine gx_coder C hj bw_986 dJ0_isLatin1_aae02_7 ?_
    refine gx_if_ne (tgt := 17) C dJ0_isLatin1_aae02_10 (by decide) (fun c2 => ?_) (fun c2 => ?_)
    · exact absurd c2 (by decide)
    · skip
      refine gx_iconst (v := (1 : Int32)) C dJ0_isLatin1_aae02_13 (by decide) ?_
      refine gx_goto (tgt := 18) C dJ0_isLatin1_aae02_14 (by decide) ?_
      exact gx_iret C rfl rfl dJ0_isLatin1_aae02_18 hw
theorem hy_J0_isLatin1_aae02 : yJ0_isLatin1_aae02.cls = "java/lang/String" ∧ yJ0_isLatin1_aae02.cls ≠ "java/lang/invoke/MethodHandle" ∧ yJ0_isLatin1_aae02.cls ≠ "java/lang/invoke/VarHandle" ∧ (parseMethodDescriptor yJ0_isLatin1_aae02.desc).map (fun d => d.parameters.length) = some 0 := by decide +kernel

theorem dJ1_charAt_3b067_0 : decode cJ1_charAt_3b067 0 = .ok (.iload_n 1, 1) := by decide +kernel
theorem dJ1_charAt_3b067_1 : decode cJ1_charAt_3b067 1 = .ok (.aload_n 0, 1) := by decide +kernel
theorem dJ1_charAt_3b067_2 : decode cJ1_charAt_3b067 2 = .ok (.arraylength, 1) := by decide +kernel
theorem dJ1_charAt_3b067_3 : decode cJ1_charAt_3b067 3 = .ok (.invokestatic 9, 3) := by decide +kernel
theorem dJ1_charAt_3b067_6 : decode cJ1_charAt_3b067 6 = .ok (.aload_n 0, 1) := by decide +kernel
theorem dJ1_charAt_3b067_7 : decode cJ1_charAt_3b067 7 = .ok (.iload_n 1, 1) := by decide +kernel
theorem dJ1_charAt_3b067_8 : decode cJ1_charAt_3b067 8 = .ok (.baload, 1) := by decide +kernel
theorem dJ1_charAt_3b067_9 : decode cJ1_charAt_3b067 9 = .ok (.sipush 255, 3) := by decide +kernel
theorem dJ1_charAt_3b067_12 : decode cJ1_charAt_3b067 12 = .ok (.iand, 1) := by decide +kernel
theorem dJ1_charAt_3b067_13 : decode cJ1_charAt_3b067 13 = .ok (.i2c, 1) := by decide +kernel
theorem dJ1_charAt_3b067_14 : decode cJ1_charAt_3b067 14 = .ok (.ireturn, 1) := by decide +kernel
def wp_J1_charAt_3b067 (j0 : Nat) (x1 : Int32) (σ : Sg) (Q : Int32 → Sg → Prop) : Prop := wp_J0_checkIndex_df160 x1 (nI (scL.getD j0 0)) σ (fun σ1 => (vp_in x1 (scL.getD j0 0) ∧ Q ((Int32.toUInt32 (((scB.getD j0 []).getD x1.toNatClampNeg 0) &&& (255 : Int32)) % 65536).toInt32) σ1))
set_option maxRecDepth 100000 in
set_option maxHeartbeats 4000000 in
theorem c_J1_charAt_3b067 (l : Launch) (E : Ev) {j0 : Nat} {x1 : Int32} (hj0 : j0 < 7) {σ : Sg} {Q : Int32 → Sg → Prop} (hw : wp_J1_charAt_3b067 j0 x1 σ Q) : CT l E yJ1_charAt_3b067 cJ1_charAt_3b067 2 (some .char) 2 81 [.ref (eV E j0), .int x1] σ (QI E Q) := by
  refine CT_of (by decide) (Nat.le_of_ble_eq_true rfl) (fun X h1 h2 C => ?_)
  subst h1; subst h2
  have C : Cx X cJ1_charAt_3b067 "java/lang/StringLatin1" (some .char) 2 81 2 (QI (tE X) Q) := C
  show G X σ [(0, .ref (eV (tE X) j0)), (1, .int x1)] [] 0
  unfold wp_J1_charAt_3b067 at hw
  refine gx_iload_n C dJ1_charAt_3b067_0 1 rfl ?_
  refine gx_aload_n C dJ1_charAt_3b067_1 0 rfl ?_
  refine gx_vlen C hj0 dJ1_charAt_3b067_2 ?_
  refine gx_scallv (As := [.int x1, .int (nI (scL.getD j0 0))]) (rest := []) C (c_J0_checkIndex_df160 _ _ hw) bw_584 bw_585 bw_10 bw_586 hyS_J0_checkIndex_df160 ⟨by decide, by decide⟩ rfl (Nat.le_of_ble_eq_true rfl) dJ1_charAt_3b067_3 (fun σ1 hw => ?_)
  refine gx_aload_n C dJ1_charAt_3b067_6 0 rfl ?_
  refine gx_iload_n C dJ1_charAt_3b067_7 1 rfl ?_
  refine gx_vald C hj0 hw.1 dJ1_charAt_3b067_8 ?_
  replace hw := hw.2
  refine gx_sipush (v := (255 : Int32)) C dJ1_charAt_3b067_9 (by decide) ?_
  refine gx_iand C dJ1_charAt_3b067_12 ?_
  refine gx_i2c C dJ1_charAt_3b067_13 ?_
  exact gx_iret C rfl (pk_nc _) dJ1_charAt_3b067_14 hw
theorem hyS_J1_charAt_3b067 : yJ1_charAt_3b067.cls ≠ "java/lang/invoke/MethodHandle" ∧ yJ1_charAt_3b067.cls ≠ "java/lang/invoke/VarHandle" ∧ (parseMethodDescriptor yJ1_charAt_3b067.desc).map (fun d => d.parameters.length) = some 2 := by decide +kernel

theorem dJ0_charAt_5068e_0 : decode cJ0_charAt_5068e 0 = .ok (.aload_n 0, 1) := by decide +kernel
theorem dJ0_charAt_5068e_1 : decode cJ0_charAt_5068e 1 = .ok (.invokevirtual 492, 3) := by decide +kernel
theorem dJ0_charAt_5068e_4 : decode cJ0_charAt_5068e 4 = .ok (.ifCond .eq 12, 3) := by decide +kernel
theorem dJ0_charAt_5068e_7 : decode cJ0_charAt_5068e 7 = .ok (.aload_n 0, 1) := by decide +kernel
theorem dJ0_charAt_5068e_8 : decode cJ0_charAt_5068e 8 = .ok (.getfield 9, 3) := by decide +kernel
theorem dJ0_charAt_5068e_11 : decode cJ0_charAt_5068e 11 = .ok (.iload_n 1, 1) := by decide +kernel
theorem dJ0_charAt_5068e_12 : decode cJ0_charAt_5068e 12 = .ok (.invokestatic 495, 3) := by decide +kernel
theorem dJ0_charAt_5068e_15 : decode cJ0_charAt_5068e 15 = .ok (.ireturn, 1) := by decide +kernel
theorem dJ0_charAt_5068e_16 : decode cJ0_charAt_5068e 16 = .ok (.aload_n 0, 1) := by decide +kernel
theorem dJ0_charAt_5068e_17 : decode cJ0_charAt_5068e 17 = .ok (.getfield 9, 3) := by decide +kernel
theorem dJ0_charAt_5068e_20 : decode cJ0_charAt_5068e 20 = .ok (.iload_n 1, 1) := by decide +kernel
theorem dJ0_charAt_5068e_21 : decode cJ0_charAt_5068e 21 = .ok (.invokestatic 498, 3) := by decide +kernel
def wp_J0_charAt_5068e (j : Nat) (x1 : Int32) (σ : Sg) (Q : Int32 → Sg → Prop) : Prop := wp_J0_isLatin1_aae02 j σ (fun r1 σ2 => ((r1 = 0 → False) ∧ (¬ r1 = 0 → wp_J1_charAt_3b067 j x1 σ2 (fun r4 σ5 => (narrow .char (.int r4) = .int r4) ∧ Q r4 σ5))))
set_option maxRecDepth 100000 in
set_option maxHeartbeats 4000000 in
theorem c_J0_charAt_5068e (l : Launch) (E : Ev) {j : Nat} {x1 : Int32} (hj : j < 7) {σ : Sg} {Q : Int32 → Sg → Prop} (hw : wp_J0_charAt_5068e j x1 σ Q) : CT l E yJ0_charAt_5068e cJ0_charAt_5068e 2 (some .char) 3 102 [.ref (eK E j), .int x1] σ (QI E Q) := by
  refine CT_of (by decide) (Nat.le_of_ble_eq_true rfl) (fun X h1 h2 C => ?_)
  subst h1; subst h2
  have C : Cx X cJ0_charAt_5068e "java/lang/String" (some .char) 3 102 2 (QI (tE X) Q) := C
  show G X σ [(0, .ref (eK (tE X) j)), (1, .int x1)] [] 0
  unfold wp_J0_charAt_5068e at hw
  refine gx_aload_n C dJ0_charAt_5068e_0 0 rfl ?_
  refine gx_kcalli (As := []) (rest := []) C hj (c_J0_isLatin1_aae02 _ _ hj hw) bw_577 bw_578 bw_579 bw_10 bw_580 hy_J0_isLatin1_aae02 ⟨by decide, by decide⟩ rfl (Nat.le_of_ble_eq_true rfl) dJ0_charAt_5068e_1 (fun r1 σ2 hw => ?_)
  refine gx_if_eq (tgt := 16) C dJ0_charAt_5068e_4 (by decide) (fun c3 => ?_) (fun c3 => ?_)
  · replace hw := hw.1 c3
    refine gx_aload_n C dJ0_charAt_5068e_16 0 rfl ?_
    refine gx_value C hj bw_985 dJ0_charAt_5068e_17 ?_
    refine gx_iload_n C dJ0_charAt_5068e_20 1 rfl ?_
    exact hw.elim
  · replace hw := hw.2 c3
    refine gx_aload_n C dJ0_charAt_5068e_7 0 rfl ?_
    refine gx_value C hj bw_985 dJ0_charAt_5068e_8 ?_
    refine gx_iload_n C dJ0_charAt_5068e_11 1 rfl ?_
    refine gx_scalli (As := [.ref (eV (tE X) j), .int x1]) (rest := []) C (c_J1_charAt_3b067 _ _ hj hw) bw_581 bw_582 bw_11 bw_583 hyS_J1_charAt_3b067 ⟨by decide, by decide⟩ rfl (Nat.le_of_ble_eq_true rfl) dJ0_charAt_5068e_12 (fun r4 σ5 hw => ?_)
    exact gx_iret C rfl hw.1 dJ0_charAt_5068e_15 hw.2
theorem hy_J0_charAt_5068e : yJ0_charAt_5068e.cls = "java/lang/String" ∧ yJ0_charAt_5068e.cls ≠ "java/lang/invoke/MethodHandle" ∧ yJ0_charAt_5068e.cls ≠ "java/lang/invoke/VarHandle" ∧ (parseMethodDescriptor yJ0_charAt_5068e.desc).map (fun d => d.parameters.length) = some 1 := by decide +kernel

theorem dJ0_isEmpty_aae02_0 : decode cJ0_isEmpty_aae02 0 = .ok (.aload_n 0, 1) := by decide +kernel
theorem dJ0_isEmpty_aae02_1 : decode cJ0_isEmpty_aae02 1 = .ok (.getfield 9, 3) := by decide +kernel
theorem dJ0_isEmpty_aae02_4 : decode cJ0_isEmpty_aae02 4 = .ok (.arraylength, 1) := by decide +kernel
theorem dJ0_isEmpty_aae02_5 : decode cJ0_isEmpty_aae02 5 = .ok (.ifCond .ne 7, 3) := by decide +kernel
theorem dJ0_isEmpty_aae02_8 : decode cJ0_isEmpty_aae02 8 = .ok (.iconst 1, 1) := by decide +kernel
theorem dJ0_isEmpty_aae02_9 : decode cJ0_isEmpty_aae02 9 = .ok (.goto 4, 3) := by decide +kernel
theorem dJ0_isEmpty_aae02_12 : decode cJ0_isEmpty_aae02 12 = .ok (.iconst 0, 1) := by decide +kernel
theorem dJ0_isEmpty_aae02_13 : decode cJ0_isEmpty_aae02 13 = .ok (.ireturn, 1) := by decide +kernel
def wp_J0_isEmpty_aae02 (j : Nat) (σ : Sg) (Q : Int32 → Sg → Prop) : Prop := ((¬ (nI (scL.getD j 0)) = 0 → Q (0 : Int32) σ) ∧ ((nI (scL.getD j 0)) = 0 → Q (1 : Int32) σ))
set_option maxRecDepth 100000 in
set_option maxHeartbeats 4000000 in
theorem c_J0_isEmpty_aae02 (l : Launch) (E : Ev) {j : Nat} (hj : j < 7) {σ : Sg} {Q : Int32 → Sg → Prop} (hw : wp_J0_isEmpty_aae02 j σ Q) : CT l E yJ0_isEmpty_aae02 cJ0_isEmpty_aae02 1 (some .boolean) 0 0 [.ref (eK E j)] σ (QI E Q) := by
  refine CT_of (by decide) (Nat.le_of_ble_eq_true rfl) (fun X h1 h2 C => ?_)
  subst h1; subst h2
  have C : Cx X cJ0_isEmpty_aae02 "java/lang/String" (some .boolean) 0 0 1 (QI (tE X) Q) := C
  show G X σ [(0, .ref (eK (tE X) j))] [] 0
  unfold wp_J0_isEmpty_aae02 at hw
  refine gx_aload_n C dJ0_isEmpty_aae02_0 0 rfl ?_
  refine gx_value C hj bw_985 dJ0_isEmpty_aae02_1 ?_
  refine gx_vlen C hj dJ0_isEmpty_aae02_4 ?_
  refine gx_if_ne (tgt := 12) C dJ0_isEmpty_aae02_5 (by decide) (fun c1 => ?_) (fun c1 => ?_)
  · replace hw := hw.1 c1
    refine gx_iconst (v := (0 : Int32)) C dJ0_isEmpty_aae02_12 (by decide) ?_
    exact gx_iret C rfl rfl dJ0_isEmpty_aae02_13 hw
  · replace hw := hw.2 c1
    refine gx_iconst (v := (1 : Int32)) C dJ0_isEmpty_aae02_8 (by decide) ?_
    refine gx_goto (tgt := 13) C dJ0_isEmpty_aae02_9 (by decide) ?_
    exact gx_iret C rfl rfl dJ0_isEmpty_aae02_13 hw
theorem hy_J0_isEmpty_aae02 : yJ0_isEmpty_aae02.cls = "java/lang/String" ∧ yJ0_isEmpty_aae02.cls ≠ "java/lang/invoke/MethodHandle" ∧ yJ0_isEmpty_aae02.cls ≠ "java/lang/invoke/VarHandle" ∧ (parseMethodDescriptor yJ0_isEmpty_aae02.desc).map (fun d => d.parameters.length) = some 0 := by decide +kernel
end
section
theorem zz_end : True := trivial
end
