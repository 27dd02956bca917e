section
-- ===== PART A: goes FIRST, ahead of the names: the tables' words, and 'selects' of the private methods out of them =====
/-- a private method of a class that the tables say can be made, by its rows of tables_1 -/
def lw_okq (q : MethodName × Nat) : Prop := (q.1.cls ≠ "java/lang/invoke/MethodHandle" ∧ q.1.cls ≠ "java/lang/invoke/VarHandle") ∧ Cond.instantiable q.1.cls q.2 ∈ tables_1 ∧ Cond.privateMethod q.1 ∈ tables_1 ∧ Cond.instanceMethod q.1 ∈ tables_1
theorem lw_p0 : lw_okq (⟨"SweetWraps$History", "dropOldest", "()V"⟩, 3) := ⟨⟨by decide +kernel, by decide +kernel⟩, List.mem_of_getElem? (i := 122) (by decide +kernel), List.mem_of_getElem? (i := 240) (by decide +kernel), List.mem_of_getElem? (i := 241) (by decide +kernel)⟩
theorem lw_p1 : lw_okq (⟨"SweetWraps$Machine", "isTin", "(I)Z"⟩, 8) := ⟨⟨by decide +kernel, by decide +kernel⟩, List.mem_of_getElem? (i := 23) (by decide +kernel), List.mem_of_getElem? (i := 290) (by decide +kernel), List.mem_of_getElem? (i := 291) (by decide +kernel)⟩
theorem lw_p2 : lw_okq (⟨"SweetWraps$Machine", "isOpenTinWithBoth", "(II)Z"⟩, 8) := ⟨⟨by decide +kernel, by decide +kernel⟩, List.mem_of_getElem? (i := 23) (by decide +kernel), List.mem_of_getElem? (i := 302) (by decide +kernel), List.mem_of_getElem? (i := 303) (by decide +kernel)⟩
theorem lw_p3 : lw_okq (⟨"SweetWraps$Machine", "isOpen", "(I)Z"⟩, 8) := ⟨⟨by decide +kernel, by decide +kernel⟩, List.mem_of_getElem? (i := 23) (by decide +kernel), List.mem_of_getElem? (i := 306) (by decide +kernel), List.mem_of_getElem? (i := 307) (by decide +kernel)⟩
theorem lw_p4 : lw_okq (⟨"SweetWraps$Machine", "workLane", "(LSweetWraps$Lane;)I"⟩, 8) := ⟨⟨by decide +kernel, by decide +kernel⟩, List.mem_of_getElem? (i := 23) (by decide +kernel), List.mem_of_getElem? (i := 326) (by decide +kernel), List.mem_of_getElem? (i := 327) (by decide +kernel)⟩
theorem lw_p5 : lw_okq (⟨"SweetWraps$Machine", "foilOfPull", "()I"⟩, 8) := ⟨⟨by decide +kernel, by decide +kernel⟩, List.mem_of_getElem? (i := 23) (by decide +kernel), List.mem_of_getElem? (i := 330) (by decide +kernel), List.mem_of_getElem? (i := 331) (by decide +kernel)⟩
theorem lw_p6 : lw_okq (⟨"SweetWraps$Machine", "pullsUntilTear", "()I"⟩, 8) := ⟨⟨by decide +kernel, by decide +kernel⟩, List.mem_of_getElem? (i := 23) (by decide +kernel), List.mem_of_getElem? (i := 334) (by decide +kernel), List.mem_of_getElem? (i := 335) (by decide +kernel)⟩
theorem lw_p7 : lw_okq (⟨"SweetWraps$Machine", "tinFor", "(I)I"⟩, 8) := ⟨⟨by decide +kernel, by decide +kernel⟩, List.mem_of_getElem? (i := 23) (by decide +kernel), List.mem_of_getElem? (i := 345) (by decide +kernel), List.mem_of_getElem? (i := 346) (by decide +kernel)⟩
theorem lw_p8 : lw_okq (⟨"SweetWraps$Machine", "reasonOf", "(LSweetWraps$Lane;I)I"⟩, 8) := ⟨⟨by decide +kernel, by decide +kernel⟩, List.mem_of_getElem? (i := 23) (by decide +kernel), List.mem_of_getElem? (i := 353) (by decide +kernel), List.mem_of_getElem? (i := 354) (by decide +kernel)⟩
theorem lw_p9 : lw_okq (⟨"SweetWraps$Machine", "reasonNow", "(LSweetWraps$Lane;)I"⟩, 8) := ⟨⟨by decide +kernel, by decide +kernel⟩, List.mem_of_getElem? (i := 23) (by decide +kernel), List.mem_of_getElem? (i := 379) (by decide +kernel), List.mem_of_getElem? (i := 380) (by decide +kernel)⟩
theorem lw_p10 : lw_okq (⟨"SweetWraps$Machine", "flavoursTakenBy", "(LSweetWraps$Tin;)I"⟩, 8) := ⟨⟨by decide +kernel, by decide +kernel⟩, List.mem_of_getElem? (i := 23) (by decide +kernel), List.mem_of_getElem? (i := 400) (by decide +kernel), List.mem_of_getElem? (i := 401) (by decide +kernel)⟩
theorem lw_p11 : lw_okq (⟨"SweetWraps$Machine", "sweetsInHoppers", "(I)I"⟩, 8) := ⟨⟨by decide +kernel, by decide +kernel⟩, List.mem_of_getElem? (i := 23) (by decide +kernel), List.mem_of_getElem? (i := 420) (by decide +kernel), List.mem_of_getElem? (i := 421) (by decide +kernel)⟩
theorem lw_p12 : lw_okq (⟨"SweetWraps$Machine", "sweetsInTins", "(IZ)I"⟩, 8) := ⟨⟨by decide +kernel, by decide +kernel⟩, List.mem_of_getElem? (i := 23) (by decide +kernel), List.mem_of_getElem? (i := 428) (by decide +kernel), List.mem_of_getElem? (i := 429) (by decide +kernel)⟩
theorem lw_p13 : lw_okq (⟨"SweetWraps$Machine", "openTinsAhead", "(I)I"⟩, 8) := ⟨⟨by decide +kernel, by decide +kernel⟩, List.mem_of_getElem? (i := 23) (by decide +kernel), List.mem_of_getElem? (i := 440) (by decide +kernel), List.mem_of_getElem? (i := 441) (by decide +kernel)⟩
theorem lw_p14 : lw_okq (⟨"SweetWraps$Machine", "sweetsInAllTins", "(I)I"⟩, 8) := ⟨⟨by decide +kernel, by decide +kernel⟩, List.mem_of_getElem? (i := 23) (by decide +kernel), List.mem_of_getElem? (i := 452) (by decide +kernel), List.mem_of_getElem? (i := 453) (by decide +kernel)⟩
theorem lw_p15 : lw_okq (⟨"SweetWraps$Machine", "flavoursAhead", "(I)I"⟩, 8) := ⟨⟨by decide +kernel, by decide +kernel⟩, List.mem_of_getElem? (i := 23) (by decide +kernel), List.mem_of_getElem? (i := 456) (by decide +kernel), List.mem_of_getElem? (i := 457) (by decide +kernel)⟩
def lw_privs_1 : List (MethodName × Nat) := [(⟨"SweetWraps$History", "dropOldest", "()V"⟩, 3), (⟨"SweetWraps$Machine", "isTin", "(I)Z"⟩, 8), (⟨"SweetWraps$Machine", "isOpenTinWithBoth", "(II)Z"⟩, 8), (⟨"SweetWraps$Machine", "isOpen", "(I)Z"⟩, 8), (⟨"SweetWraps$Machine", "workLane", "(LSweetWraps$Lane;)I"⟩, 8), (⟨"SweetWraps$Machine", "foilOfPull", "()I"⟩, 8), (⟨"SweetWraps$Machine", "pullsUntilTear", "()I"⟩, 8), (⟨"SweetWraps$Machine", "tinFor", "(I)I"⟩, 8), (⟨"SweetWraps$Machine", "reasonOf", "(LSweetWraps$Lane;I)I"⟩, 8), (⟨"SweetWraps$Machine", "reasonNow", "(LSweetWraps$Lane;)I"⟩, 8), (⟨"SweetWraps$Machine", "flavoursTakenBy", "(LSweetWraps$Tin;)I"⟩, 8), (⟨"SweetWraps$Machine", "sweetsInHoppers", "(I)I"⟩, 8), (⟨"SweetWraps$Machine", "sweetsInTins", "(IZ)I"⟩, 8), (⟨"SweetWraps$Machine", "openTinsAhead", "(I)I"⟩, 8), (⟨"SweetWraps$Machine", "sweetsInAllTins", "(I)I"⟩, 8), (⟨"SweetWraps$Machine", "flavoursAhead", "(I)I"⟩, 8)]
theorem lw_r1 : ∀ q ∈ lw_privs_1, lw_okq q := List.forall_mem_cons.mpr ⟨lw_p0, List.forall_mem_cons.mpr ⟨lw_p1, List.forall_mem_cons.mpr ⟨lw_p2, List.forall_mem_cons.mpr ⟨lw_p3, List.forall_mem_cons.mpr ⟨lw_p4, List.forall_mem_cons.mpr ⟨lw_p5, List.forall_mem_cons.mpr ⟨lw_p6, List.forall_mem_cons.mpr ⟨lw_p7, List.forall_mem_cons.mpr ⟨lw_p8, List.forall_mem_cons.mpr ⟨lw_p9, List.forall_mem_cons.mpr ⟨lw_p10, List.forall_mem_cons.mpr ⟨lw_p11, List.forall_mem_cons.mpr ⟨lw_p12, List.forall_mem_cons.mpr ⟨lw_p13, List.forall_mem_cons.mpr ⟨lw_p14, List.forall_mem_cons.mpr ⟨lw_p15, fun _ h => absurd h List.not_mem_nil⟩⟩⟩⟩⟩⟩⟩⟩⟩⟩⟩⟩⟩⟩⟩⟩
theorem lw_p16 : lw_okq (⟨"SweetWraps$Machine", "tinsThatAre", "(Z)I"⟩, 8) := ⟨⟨by decide +kernel, by decide +kernel⟩, List.mem_of_getElem? (i := 23) (by decide +kernel), List.mem_of_getElem? (i := 468) (by decide +kernel), List.mem_of_getElem? (i := 469) (by decide +kernel)⟩
theorem lw_p17 : lw_okq (⟨"SweetWraps$Machine", "overLanes", "(I)I"⟩, 8) := ⟨⟨by decide +kernel, by decide +kernel⟩, List.mem_of_getElem? (i := 23) (by decide +kernel), List.mem_of_getElem? (i := 472) (by decide +kernel), List.mem_of_getElem? (i := 473) (by decide +kernel)⟩
theorem lw_p18 : lw_okq (⟨"SweetWraps$Machine", "sweetsShipped", "()I"⟩, 8) := ⟨⟨by decide +kernel, by decide +kernel⟩, List.mem_of_getElem? (i := 23) (by decide +kernel), List.mem_of_getElem? (i := 477) (by decide +kernel), List.mem_of_getElem? (i := 478) (by decide +kernel)⟩
theorem lw_p19 : lw_okq (⟨"SweetWraps$Machine", "standingLanes", "()I"⟩, 8) := ⟨⟨by decide +kernel, by decide +kernel⟩, List.mem_of_getElem? (i := 23) (by decide +kernel), List.mem_of_getElem? (i := 481) (by decide +kernel), List.mem_of_getElem? (i := 482) (by decide +kernel)⟩
theorem lw_p20 : lw_okq (⟨"SweetWraps$Pad", "signHere", "()I"⟩, 6) := ⟨⟨by decide +kernel, by decide +kernel⟩, List.mem_of_getElem? (i := 142) (by decide +kernel), List.mem_of_getElem? (i := 550) (by decide +kernel), List.mem_of_getElem? (i := 551) (by decide +kernel)⟩
theorem lw_p21 : lw_okq (⟨"SweetWraps$Pad", "readPart", "(I)Z"⟩, 6) := ⟨⟨by decide +kernel, by decide +kernel⟩, List.mem_of_getElem? (i := 142) (by decide +kernel), List.mem_of_getElem? (i := 612) (by decide +kernel), List.mem_of_getElem? (i := 613) (by decide +kernel)⟩
theorem lw_p22 : lw_okq (⟨"SweetWraps$Pad", "readDigit", "()Z"⟩, 6) := ⟨⟨by decide +kernel, by decide +kernel⟩, List.mem_of_getElem? (i := 142) (by decide +kernel), List.mem_of_getElem? (i := 616) (by decide +kernel), List.mem_of_getElem? (i := 617) (by decide +kernel)⟩
theorem lw_p23 : lw_okq (⟨"SweetWraps$Pad", "isDigitHere", "()Z"⟩, 6) := ⟨⟨by decide +kernel, by decide +kernel⟩, List.mem_of_getElem? (i := 142) (by decide +kernel), List.mem_of_getElem? (i := 620) (by decide +kernel), List.mem_of_getElem? (i := 621) (by decide +kernel)⟩
theorem lw_p24 : lw_okq (⟨"SweetWraps$Pad", "keepValue", "(I)V"⟩, 6) := ⟨⟨by decide +kernel, by decide +kernel⟩, List.mem_of_getElem? (i := 142) (by decide +kernel), List.mem_of_getElem? (i := 624) (by decide +kernel), List.mem_of_getElem? (i := 625) (by decide +kernel)⟩
theorem lw_p25 : lw_okq (⟨"SweetWraps$Pad", "readNumber", "()Z"⟩, 6) := ⟨⟨by decide +kernel, by decide +kernel⟩, List.mem_of_getElem? (i := 142) (by decide +kernel), List.mem_of_getElem? (i := 628) (by decide +kernel), List.mem_of_getElem? (i := 629) (by decide +kernel)⟩
theorem lw_p26 : lw_okq (⟨"SweetWraps", "carryOrder", "()I"⟩, 6) := ⟨⟨by decide +kernel, by decide +kernel⟩, List.mem_of_getElem? (i := 15) (by decide +kernel), List.mem_of_getElem? (i := 647) (by decide +kernel), List.mem_of_getElem? (i := 648) (by decide +kernel)⟩
theorem lw_p27 : lw_okq (⟨"SweetWrapsModel", "record", "()V"⟩, 11) := ⟨⟨by decide +kernel, by decide +kernel⟩, List.mem_of_getElem? (i := 668) (by decide +kernel), List.mem_of_getElem? (i := 715) (by decide +kernel), List.mem_of_getElem? (i := 716) (by decide +kernel)⟩
theorem lw_p28 : lw_okq (⟨"SweetWrapsModel", "putAside", "()V"⟩, 11) := ⟨⟨by decide +kernel, by decide +kernel⟩, List.mem_of_getElem? (i := 668) (by decide +kernel), List.mem_of_getElem? (i := 723) (by decide +kernel), List.mem_of_getElem? (i := 724) (by decide +kernel)⟩
theorem lw_p29 : lw_okq (⟨"SweetWrapsModel", "heaps", "(III)I"⟩, 11) := ⟨⟨by decide +kernel, by decide +kernel⟩, List.mem_of_getElem? (i := 668) (by decide +kernel), List.mem_of_getElem? (i := 727) (by decide +kernel), List.mem_of_getElem? (i := 728) (by decide +kernel)⟩
theorem lw_p30 : lw_okq (⟨"SweetWrapsModel", "heapFlavour", "(II)I"⟩, 11) := ⟨⟨by decide +kernel, by decide +kernel⟩, List.mem_of_getElem? (i := 668) (by decide +kernel), List.mem_of_getElem? (i := 737) (by decide +kernel), List.mem_of_getElem? (i := 738) (by decide +kernel)⟩
theorem lw_p31 : lw_okq (⟨"SweetWrapsModel", "lane", "(II)I"⟩, 11) := ⟨⟨by decide +kernel, by decide +kernel⟩, List.mem_of_getElem? (i := 668) (by decide +kernel), List.mem_of_getElem? (i := 741) (by decide +kernel), List.mem_of_getElem? (i := 742) (by decide +kernel)⟩
def lw_privs_2 : List (MethodName × Nat) := [(⟨"SweetWraps$Machine", "tinsThatAre", "(Z)I"⟩, 8), (⟨"SweetWraps$Machine", "overLanes", "(I)I"⟩, 8), (⟨"SweetWraps$Machine", "sweetsShipped", "()I"⟩, 8), (⟨"SweetWraps$Machine", "standingLanes", "()I"⟩, 8), (⟨"SweetWraps$Pad", "signHere", "()I"⟩, 6), (⟨"SweetWraps$Pad", "readPart", "(I)Z"⟩, 6), (⟨"SweetWraps$Pad", "readDigit", "()Z"⟩, 6), (⟨"SweetWraps$Pad", "isDigitHere", "()Z"⟩, 6), (⟨"SweetWraps$Pad", "keepValue", "(I)V"⟩, 6), (⟨"SweetWraps$Pad", "readNumber", "()Z"⟩, 6), (⟨"SweetWraps", "carryOrder", "()I"⟩, 6), (⟨"SweetWrapsModel", "record", "()V"⟩, 11), (⟨"SweetWrapsModel", "putAside", "()V"⟩, 11), (⟨"SweetWrapsModel", "heaps", "(III)I"⟩, 11), (⟨"SweetWrapsModel", "heapFlavour", "(II)I"⟩, 11), (⟨"SweetWrapsModel", "lane", "(II)I"⟩, 11)]
theorem lw_r2 : ∀ q ∈ lw_privs_2, lw_okq q := List.forall_mem_cons.mpr ⟨lw_p16, List.forall_mem_cons.mpr ⟨lw_p17, List.forall_mem_cons.mpr ⟨lw_p18, List.forall_mem_cons.mpr ⟨lw_p19, List.forall_mem_cons.mpr ⟨lw_p20, List.forall_mem_cons.mpr ⟨lw_p21, List.forall_mem_cons.mpr ⟨lw_p22, List.forall_mem_cons.mpr ⟨lw_p23, List.forall_mem_cons.mpr ⟨lw_p24, List.forall_mem_cons.mpr ⟨lw_p25, List.forall_mem_cons.mpr ⟨lw_p26, List.forall_mem_cons.mpr ⟨lw_p27, List.forall_mem_cons.mpr ⟨lw_p28, List.forall_mem_cons.mpr ⟨lw_p29, List.forall_mem_cons.mpr ⟨lw_p30, List.forall_mem_cons.mpr ⟨lw_p31, fun _ h => absurd h List.not_mem_nil⟩⟩⟩⟩⟩⟩⟩⟩⟩⟩⟩⟩⟩⟩⟩⟩
theorem lw_p32 : lw_okq (⟨"SweetWrapsModel", "inHopper", "(I)I"⟩, 11) := ⟨⟨by decide +kernel, by decide +kernel⟩, List.mem_of_getElem? (i := 668) (by decide +kernel), List.mem_of_getElem? (i := 745) (by decide +kernel), List.mem_of_getElem? (i := 746) (by decide +kernel)⟩
theorem lw_p33 : lw_okq (⟨"SweetWrapsModel", "heapMany", "(II)I"⟩, 11) := ⟨⟨by decide +kernel, by decide +kernel⟩, List.mem_of_getElem? (i := 668) (by decide +kernel), List.mem_of_getElem? (i := 749) (by decide +kernel), List.mem_of_getElem? (i := 750) (by decide +kernel)⟩
theorem lw_p34 : lw_okq (⟨"SweetWrapsModel", "end", "(I)I"⟩, 11) := ⟨⟨by decide +kernel, by decide +kernel⟩, List.mem_of_getElem? (i := 668) (by decide +kernel), List.mem_of_getElem? (i := 753) (by decide +kernel), List.mem_of_getElem? (i := 754) (by decide +kernel)⟩
theorem lw_p35 : lw_okq (⟨"SweetWrapsModel", "foils", "(II)I"⟩, 11) := ⟨⟨by decide +kernel, by decide +kernel⟩, List.mem_of_getElem? (i := 668) (by decide +kernel), List.mem_of_getElem? (i := 761) (by decide +kernel), List.mem_of_getElem? (i := 762) (by decide +kernel)⟩
theorem lw_p36 : lw_okq (⟨"SweetWrapsModel", "tins", "()I"⟩, 11) := ⟨⟨by decide +kernel, by decide +kernel⟩, List.mem_of_getElem? (i := 668) (by decide +kernel), List.mem_of_getElem? (i := 769) (by decide +kernel), List.mem_of_getElem? (i := 770) (by decide +kernel)⟩
theorem lw_p37 : lw_okq (⟨"SweetWrapsModel", "ships", "(I)I"⟩, 11) := ⟨⟨by decide +kernel, by decide +kernel⟩, List.mem_of_getElem? (i := 668) (by decide +kernel), List.mem_of_getElem? (i := 777) (by decide +kernel), List.mem_of_getElem? (i := 778) (by decide +kernel)⟩
theorem lw_p38 : lw_okq (⟨"SweetWrapsModel", "isShipped", "(I)Z"⟩, 11) := ⟨⟨by decide +kernel, by decide +kernel⟩, List.mem_of_getElem? (i := 668) (by decide +kernel), List.mem_of_getElem? (i := 781) (by decide +kernel), List.mem_of_getElem? (i := 782) (by decide +kernel)⟩
theorem lw_p39 : lw_okq (⟨"SweetWrapsModel", "sweets", "(I)I"⟩, 11) := ⟨⟨by decide +kernel, by decide +kernel⟩, List.mem_of_getElem? (i := 668) (by decide +kernel), List.mem_of_getElem? (i := 785) (by decide +kernel), List.mem_of_getElem? (i := 786) (by decide +kernel)⟩
theorem lw_p40 : lw_okq (⟨"SweetWrapsModel", "inside", "(II)I"⟩, 11) := ⟨⟨by decide +kernel, by decide +kernel⟩, List.mem_of_getElem? (i := 668) (by decide +kernel), List.mem_of_getElem? (i := 789) (by decide +kernel), List.mem_of_getElem? (i := 790) (by decide +kernel)⟩
theorem lw_p41 : lw_okq (⟨"SweetWrapsModel", "keepsApart", "(II)I"⟩, 11) := ⟨⟨by decide +kernel, by decide +kernel⟩, List.mem_of_getElem? (i := 668) (by decide +kernel), List.mem_of_getElem? (i := 797) (by decide +kernel), List.mem_of_getElem? (i := 798) (by decide +kernel)⟩
theorem lw_p42 : lw_okq (⟨"SweetWrapsModel", "areApart", "(II)Z"⟩, 11) := ⟨⟨by decide +kernel, by decide +kernel⟩, List.mem_of_getElem? (i := 668) (by decide +kernel), List.mem_of_getElem? (i := 801) (by decide +kernel), List.mem_of_getElem? (i := 802) (by decide +kernel)⟩
theorem lw_p43 : lw_okq (⟨"SweetWrapsModel", "turn", "(II)V"⟩, 11) := ⟨⟨by decide +kernel, by decide +kernel⟩, List.mem_of_getElem? (i := 668) (by decide +kernel), List.mem_of_getElem? (i := 805) (by decide +kernel), List.mem_of_getElem? (i := 806) (by decide +kernel)⟩
theorem lw_p44 : lw_okq (⟨"SweetWrapsModel", "goes", "(I)I"⟩, 11) := ⟨⟨by decide +kernel, by decide +kernel⟩, List.mem_of_getElem? (i := 668) (by decide +kernel), List.mem_of_getElem? (i := 813) (by decide +kernel), List.mem_of_getElem? (i := 814) (by decide +kernel)⟩
theorem lw_p45 : lw_okq (⟨"SweetWrapsModel", "runs", "(I)I"⟩, 11) := ⟨⟨by decide +kernel, by decide +kernel⟩, List.mem_of_getElem? (i := 668) (by decide +kernel), List.mem_of_getElem? (i := 817) (by decide +kernel), List.mem_of_getElem? (i := 818) (by decide +kernel)⟩
theorem lw_p46 : lw_okq (⟨"SweetWrapsModel", "tick", "()I"⟩, 11) := ⟨⟨by decide +kernel, by decide +kernel⟩, List.mem_of_getElem? (i := 668) (by decide +kernel), List.mem_of_getElem? (i := 821) (by decide +kernel), List.mem_of_getElem? (i := 822) (by decide +kernel)⟩
theorem lw_p47 : lw_okq (⟨"SweetWrapsModel", "reason", "(I)I"⟩, 11) := ⟨⟨by decide +kernel, by decide +kernel⟩, List.mem_of_getElem? (i := 668) (by decide +kernel), List.mem_of_getElem? (i := 825) (by decide +kernel), List.mem_of_getElem? (i := 826) (by decide +kernel)⟩
def lw_privs_3 : List (MethodName × Nat) := [(⟨"SweetWrapsModel", "inHopper", "(I)I"⟩, 11), (⟨"SweetWrapsModel", "heapMany", "(II)I"⟩, 11), (⟨"SweetWrapsModel", "end", "(I)I"⟩, 11), (⟨"SweetWrapsModel", "foils", "(II)I"⟩, 11), (⟨"SweetWrapsModel", "tins", "()I"⟩, 11), (⟨"SweetWrapsModel", "ships", "(I)I"⟩, 11), (⟨"SweetWrapsModel", "isShipped", "(I)Z"⟩, 11), (⟨"SweetWrapsModel", "sweets", "(I)I"⟩, 11), (⟨"SweetWrapsModel", "inside", "(II)I"⟩, 11), (⟨"SweetWrapsModel", "keepsApart", "(II)I"⟩, 11), (⟨"SweetWrapsModel", "areApart", "(II)Z"⟩, 11), (⟨"SweetWrapsModel", "turn", "(II)V"⟩, 11), (⟨"SweetWrapsModel", "goes", "(I)I"⟩, 11), (⟨"SweetWrapsModel", "runs", "(I)I"⟩, 11), (⟨"SweetWrapsModel", "tick", "()I"⟩, 11), (⟨"SweetWrapsModel", "reason", "(I)I"⟩, 11)]
theorem lw_r3 : ∀ q ∈ lw_privs_3, lw_okq q := List.forall_mem_cons.mpr ⟨lw_p32, List.forall_mem_cons.mpr ⟨lw_p33, List.forall_mem_cons.mpr ⟨lw_p34, List.forall_mem_cons.mpr ⟨lw_p35, List.forall_mem_cons.mpr ⟨lw_p36, List.forall_mem_cons.mpr ⟨lw_p37, List.forall_mem_cons.mpr ⟨lw_p38, List.forall_mem_cons.mpr ⟨lw_p39, List.forall_mem_cons.mpr ⟨lw_p40, List.forall_mem_cons.mpr ⟨lw_p41, List.forall_mem_cons.mpr ⟨lw_p42, List.forall_mem_cons.mpr ⟨lw_p43, List.forall_mem_cons.mpr ⟨lw_p44, List.forall_mem_cons.mpr ⟨lw_p45, List.forall_mem_cons.mpr ⟨lw_p46, List.forall_mem_cons.mpr ⟨lw_p47, fun _ h => absurd h List.not_mem_nil⟩⟩⟩⟩⟩⟩⟩⟩⟩⟩⟩⟩⟩⟩⟩⟩
theorem lw_p48 : lw_okq (⟨"SweetWrapsModel", "tinFor", "(I)I"⟩, 11) := ⟨⟨by decide +kernel, by decide +kernel⟩, List.mem_of_getElem? (i := 668) (by decide +kernel), List.mem_of_getElem? (i := 829) (by decide +kernel), List.mem_of_getElem? (i := 830) (by decide +kernel)⟩
theorem lw_p49 : lw_okq (⟨"SweetWrapsModel", "takes", "(II)Z"⟩, 11) := ⟨⟨by decide +kernel, by decide +kernel⟩, List.mem_of_getElem? (i := 668) (by decide +kernel), List.mem_of_getElem? (i := 833) (by decide +kernel), List.mem_of_getElem? (i := 834) (by decide +kernel)⟩
theorem lw_p50 : lw_okq (⟨"SweetWrapsModel", "flavoursOf", "(I)I"⟩, 11) := ⟨⟨by decide +kernel, by decide +kernel⟩, List.mem_of_getElem? (i := 668) (by decide +kernel), List.mem_of_getElem? (i := 837) (by decide +kernel), List.mem_of_getElem? (i := 838) (by decide +kernel)⟩
theorem lw_p51 : lw_okq (⟨"SweetWrapsModel", "tryOnce", "(I)I"⟩, 11) := ⟨⟨by decide +kernel, by decide +kernel⟩, List.mem_of_getElem? (i := 668) (by decide +kernel), List.mem_of_getElem? (i := 841) (by decide +kernel), List.mem_of_getElem? (i := 842) (by decide +kernel)⟩
theorem lw_p52 : lw_okq (⟨"SweetWrapsModel", "takeSweet", "(I)V"⟩, 11) := ⟨⟨by decide +kernel, by decide +kernel⟩, List.mem_of_getElem? (i := 668) (by decide +kernel), List.mem_of_getElem? (i := 845) (by decide +kernel), List.mem_of_getElem? (i := 846) (by decide +kernel)⟩
theorem lw_p53 : lw_okq (⟨"SweetWrapsModel", "taken", "(I)I"⟩, 11) := ⟨⟨by decide +kernel, by decide +kernel⟩, List.mem_of_getElem? (i := 668) (by decide +kernel), List.mem_of_getElem? (i := 861) (by decide +kernel), List.mem_of_getElem? (i := 862) (by decide +kernel)⟩
theorem lw_p54 : lw_okq (⟨"SweetWrapsModel", "inHoppers", "(I)I"⟩, 11) := ⟨⟨by decide +kernel, by decide +kernel⟩, List.mem_of_getElem? (i := 668) (by decide +kernel), List.mem_of_getElem? (i := 873) (by decide +kernel), List.mem_of_getElem? (i := 874) (by decide +kernel)⟩
theorem lw_p55 : lw_okq (⟨"SweetWrapsModel", "inTins", "(II)I"⟩, 11) := ⟨⟨by decide +kernel, by decide +kernel⟩, List.mem_of_getElem? (i := 668) (by decide +kernel), List.mem_of_getElem? (i := 877) (by decide +kernel), List.mem_of_getElem? (i := 878) (by decide +kernel)⟩
theorem lw_p56 : lw_okq (⟨"SweetWrapsModel", "inAll", "(I)I"⟩, 11) := ⟨⟨by decide +kernel, by decide +kernel⟩, List.mem_of_getElem? (i := 668) (by decide +kernel), List.mem_of_getElem? (i := 889) (by decide +kernel), List.mem_of_getElem? (i := 890) (by decide +kernel)⟩
theorem lw_p57 : lw_okq (⟨"SweetWrapsModel", "tinSet", "(I)I"⟩, 11) := ⟨⟨by decide +kernel, by decide +kernel⟩, List.mem_of_getElem? (i := 668) (by decide +kernel), List.mem_of_getElem? (i := 897) (by decide +kernel), List.mem_of_getElem? (i := 898) (by decide +kernel)⟩
theorem lw_p58 : lw_okq (⟨"SweetWrapsModel", "lanes", "(I)I"⟩, 11) := ⟨⟨by decide +kernel, by decide +kernel⟩, List.mem_of_getElem? (i := 668) (by decide +kernel), List.mem_of_getElem? (i := 901) (by decide +kernel), List.mem_of_getElem? (i := 902) (by decide +kernel)⟩
theorem lw_p59 : lw_okq (⟨"SweetWrapsModel", "shippedSweets", "()I"⟩, 11) := ⟨⟨by decide +kernel, by decide +kernel⟩, List.mem_of_getElem? (i := 668) (by decide +kernel), List.mem_of_getElem? (i := 905) (by decide +kernel), List.mem_of_getElem? (i := 906) (by decide +kernel)⟩
theorem lw_p60 : lw_okq (⟨"SweetWrapsModel", "failing", "()I"⟩, 11) := ⟨⟨by decide +kernel, by decide +kernel⟩, List.mem_of_getElem? (i := 668) (by decide +kernel), List.mem_of_getElem? (i := 909) (by decide +kernel), List.mem_of_getElem? (i := 910) (by decide +kernel)⟩
theorem lw_p61 : lw_okq (⟨"SweetWrapsModel", "putBack", "()V"⟩, 11) := ⟨⟨by decide +kernel, by decide +kernel⟩, List.mem_of_getElem? (i := 668) (by decide +kernel), List.mem_of_getElem? (i := 917) (by decide +kernel), List.mem_of_getElem? (i := 918) (by decide +kernel)⟩
theorem lw_p62 : lw_okq (⟨"SweetWrapsModel", "go", "(Z)I"⟩, 11) := ⟨⟨by decide +kernel, by decide +kernel⟩, List.mem_of_getElem? (i := 668) (by decide +kernel), List.mem_of_getElem? (i := 949) (by decide +kernel), List.mem_of_getElem? (i := 950) (by decide +kernel)⟩
theorem lw_p63 : lw_okq (⟨"SweetWrapsModel", "order", "(Z)I"⟩, 11) := ⟨⟨by decide +kernel, by decide +kernel⟩, List.mem_of_getElem? (i := 668) (by decide +kernel), List.mem_of_getElem? (i := 953) (by decide +kernel), List.mem_of_getElem? (i := 954) (by decide +kernel)⟩
def lw_privs_4 : List (MethodName × Nat) := [(⟨"SweetWrapsModel", "tinFor", "(I)I"⟩, 11), (⟨"SweetWrapsModel", "takes", "(II)Z"⟩, 11), (⟨"SweetWrapsModel", "flavoursOf", "(I)I"⟩, 11), (⟨"SweetWrapsModel", "tryOnce", "(I)I"⟩, 11), (⟨"SweetWrapsModel", "takeSweet", "(I)V"⟩, 11), (⟨"SweetWrapsModel", "taken", "(I)I"⟩, 11), (⟨"SweetWrapsModel", "inHoppers", "(I)I"⟩, 11), (⟨"SweetWrapsModel", "inTins", "(II)I"⟩, 11), (⟨"SweetWrapsModel", "inAll", "(I)I"⟩, 11), (⟨"SweetWrapsModel", "tinSet", "(I)I"⟩, 11), (⟨"SweetWrapsModel", "lanes", "(I)I"⟩, 11), (⟨"SweetWrapsModel", "shippedSweets", "()I"⟩, 11), (⟨"SweetWrapsModel", "failing", "()I"⟩, 11), (⟨"SweetWrapsModel", "putBack", "()V"⟩, 11), (⟨"SweetWrapsModel", "go", "(Z)I"⟩, 11), (⟨"SweetWrapsModel", "order", "(Z)I"⟩, 11)]
theorem lw_r4 : ∀ q ∈ lw_privs_4, lw_okq q := List.forall_mem_cons.mpr ⟨lw_p48, List.forall_mem_cons.mpr ⟨lw_p49, List.forall_mem_cons.mpr ⟨lw_p50, List.forall_mem_cons.mpr ⟨lw_p51, List.forall_mem_cons.mpr ⟨lw_p52, List.forall_mem_cons.mpr ⟨lw_p53, List.forall_mem_cons.mpr ⟨lw_p54, List.forall_mem_cons.mpr ⟨lw_p55, List.forall_mem_cons.mpr ⟨lw_p56, List.forall_mem_cons.mpr ⟨lw_p57, List.forall_mem_cons.mpr ⟨lw_p58, List.forall_mem_cons.mpr ⟨lw_p59, List.forall_mem_cons.mpr ⟨lw_p60, List.forall_mem_cons.mpr ⟨lw_p61, List.forall_mem_cons.mpr ⟨lw_p62, List.forall_mem_cons.mpr ⟨lw_p63, fun _ h => absurd h List.not_mem_nil⟩⟩⟩⟩⟩⟩⟩⟩⟩⟩⟩⟩⟩⟩⟩⟩
theorem lw_p64 : lw_okq (⟨"SweetWrapsModel", "isNext", "(I)Z"⟩, 11) := ⟨⟨by decide +kernel, by decide +kernel⟩, List.mem_of_getElem? (i := 668) (by decide +kernel), List.mem_of_getElem? (i := 957) (by decide +kernel), List.mem_of_getElem? (i := 958) (by decide +kernel)⟩
theorem lw_p65 : lw_okq (⟨"SweetWrapsModel", "sign", "(II)I"⟩, 11) := ⟨⟨by decide +kernel, by decide +kernel⟩, List.mem_of_getElem? (i := 668) (by decide +kernel), List.mem_of_getElem? (i := 961) (by decide +kernel), List.mem_of_getElem? (i := 962) (by decide +kernel)⟩
theorem lw_p66 : lw_okq (⟨"SweetWrapsModel", "number", "()I"⟩, 11) := ⟨⟨by decide +kernel, by decide +kernel⟩, List.mem_of_getElem? (i := 668) (by decide +kernel), List.mem_of_getElem? (i := 965) (by decide +kernel), List.mem_of_getElem? (i := 966) (by decide +kernel)⟩
def lw_privs_5 : List (MethodName × Nat) := [(⟨"SweetWrapsModel", "isNext", "(I)Z"⟩, 11), (⟨"SweetWrapsModel", "sign", "(II)I"⟩, 11), (⟨"SweetWrapsModel", "number", "()I"⟩, 11)]
theorem lw_r5 : ∀ q ∈ lw_privs_5, lw_okq q := List.forall_mem_cons.mpr ⟨lw_p64, List.forall_mem_cons.mpr ⟨lw_p65, List.forall_mem_cons.mpr ⟨lw_p66, fun _ h => absurd h List.not_mem_nil⟩⟩⟩
def lw_privs : List (MethodName × Nat) := lw_privs_1 ++ (lw_privs_2 ++ (lw_privs_3 ++ (lw_privs_4 ++ (lw_privs_5))))
def lw_tbl : List Cond := k2_sels lw_privs ++ tables_1
theorem lw_privs_ok : ∀ q ∈ lw_privs, lw_okq q := by
  show ∀ q ∈ lw_privs_1 ++ (lw_privs_2 ++ (lw_privs_3 ++ (lw_privs_4 ++ (lw_privs_5)))), lw_okq q
  exact List.forall_mem_append.mpr ⟨lw_r1, List.forall_mem_append.mpr ⟨lw_r2, List.forall_mem_append.mpr ⟨lw_r3, List.forall_mem_append.mpr ⟨lw_r4, lw_r5⟩⟩⟩⟩
-- ===== end of PART A; then your names; then what follows =====
end
section
def RX0 : String := "SweetWraps$History"
def TX0 : u_T := fun k => match k with
  | 0 => ("SweetWraps$History", "states", "[LSweetWraps$Machine;", true)
  | 1 => ("SweetWraps$History", "prepared", "LSweetWraps$Machine;", false)
  | _ => ("SweetWraps$History", "depth", "I", false)
def tyX0 : Nat → FieldType := fun k => match k with
  | 0 => .array (.object "SweetWraps$Machine")
  | 1 => .object "SweetWraps$Machine"
  | _ => .int
abbrev wsX00 : List Cond := u_ws RX0 TX0 3
theorem nmX0 : ∀ a, a < 3 → ∀ b, b < 3 → a ≠ b → (TX0 a).2.1 ≠ (TX0 b).2.1 := by decide +kernel
theorem tyX0_ok : ∀ k, k < 3 → parseFieldDescriptor (TX0 k).2.2.1 = some (tyX0 k) := by decide +kernel
abbrev cX0_init : ByteArray := prog_2_method_1_code
def yX0_init : MethodName := ⟨RX0, "<init>", "()V"⟩
abbrev cX0_prepare : ByteArray := prog_2_method_2_code
def yX0_prepare : MethodName := ⟨RX0, "prepare", "(LSweetWraps$Machine;)V"⟩
abbrev cX0_record : ByteArray := prog_2_method_3_code
def yX0_record : MethodName := ⟨RX0, "record", "(I)I"⟩
abbrev cX0_dropOldest : ByteArray := prog_2_method_4_code
def yX0_dropOldest : MethodName := ⟨RX0, "dropOldest", "()V"⟩
abbrev cX0_stepBack : ByteArray := prog_2_method_5_code
def yX0_stepBack : MethodName := ⟨RX0, "stepBack", "(LSweetWraps$Machine;)I"⟩
def RX1 : String := "SweetWraps$Lane"
def TX1 : u_T := fun k => match k with
  | 0 => ("SweetWraps$Lane", "flavours", "[I", true)
  | 1 => ("SweetWraps$Lane", "sweets", "[I", true)
  | 2 => ("SweetWraps$Lane", "heaps", "I", false)
  | 3 => ("SweetWraps$Lane", "foilLeft", "I", false)
  | 4 => ("SweetWraps$Lane", "pulls", "I", false)
  | 5 => ("SweetWraps$Lane", "torn", "I", false)
  | 6 => ("SweetWraps$Lane", "wrapped", "I", false)
  | _ => ("SweetWraps$Lane", "lastReason", "I", false)
def tyX1 : Nat → FieldType := fun k => match k with
  | 0 => .array .int
  | 1 => .array .int
  | 2 => .int
  | 3 => .int
  | 4 => .int
  | 5 => .int
  | 6 => .int
  | _ => .int
abbrev wsX10 : List Cond := u_ws RX1 TX1 8
theorem nmX1 : ∀ a, a < 8 → ∀ b, b < 8 → a ≠ b → (TX1 a).2.1 ≠ (TX1 b).2.1 := by decide +kernel
theorem tyX1_ok : ∀ k, k < 8 → parseFieldDescriptor (TX1 k).2.2.1 = some (tyX1 k) := by decide +kernel
abbrev cX1_init : ByteArray := prog_3_method_1_code
def yX1_init : MethodName := ⟨RX1, "<init>", "()V"⟩
abbrev cX1_copyFrom : ByteArray := prog_3_method_2_code
def yX1_copyFrom : MethodName := ⟨RX1, "copyFrom", "(LSweetWraps$Lane;)V"⟩
abbrev cX1_isHeap : ByteArray := prog_3_method_3_code
def yX1_isHeap : MethodName := ⟨RX1, "isHeap", "(I)Z"⟩
abbrev cX1_nextFlavour : ByteArray := prog_3_method_4_code
def yX1_nextFlavour : MethodName := ⟨RX1, "nextFlavour", "()I"⟩
abbrev cX1_sweetsInHopper : ByteArray := prog_3_method_5_code
def yX1_sweetsInHopper : MethodName := ⟨RX1, "sweetsInHopper", "()I"⟩
abbrev cX1_sweetsOf : ByteArray := prog_3_method_6_code
def yX1_sweetsOf : MethodName := ⟨RX1, "sweetsOf", "(I)I"⟩
abbrev cX1_addSweets : ByteArray := prog_3_method_7_code
def yX1_addSweets : MethodName := ⟨RX1, "addSweets", "(II)I"⟩
abbrev cX1_pullTears : ByteArray := prog_3_method_8_code
def yX1_pullTears : MethodName := ⟨RX1, "pullTears", "(II)Z"⟩
abbrev cX1_wrapNext : ByteArray := prog_3_method_9_code
def yX1_wrapNext : MethodName := ⟨RX1, "wrapNext", "()V"⟩
def RX2 : String := "SweetWraps$Machine"
def TX2 : u_T := fun k => match k with
  | 0 => ("SweetWraps$Machine", "settings", "[I", true)
  | 1 => ("SweetWraps$Machine", "lanes", "[LSweetWraps$Lane;", true)
  | 2 => ("SweetWraps$Machine", "tins", "[LSweetWraps$Tin;", true)
  | 3 => ("SweetWraps$Machine", "apartFrom", "[I", true)
  | 4 => ("SweetWraps$Machine", "tinCount", "I", false)
  | 5 => ("SweetWraps$Machine", "ticks", "I", false)
  | 6 => ("SweetWraps$Machine", "foilPulled", "I", false)
  | _ => ("SweetWraps$Machine", "foilWasted", "I", false)
def tyX2 : Nat → FieldType := fun k => match k with
  | 0 => .array .int
  | 1 => .array (.object "SweetWraps$Lane")
  | 2 => .array (.object "SweetWraps$Tin")
  | 3 => .array .int
  | 4 => .int
  | 5 => .int
  | 6 => .int
  | _ => .int
abbrev wsX20 : List Cond := u_ws RX2 TX2 8
theorem nmX2 : ∀ a, a < 8 → ∀ b, b < 8 → a ≠ b → (TX2 a).2.1 ≠ (TX2 b).2.1 := by decide +kernel
theorem tyX2_ok : ∀ k, k < 8 → parseFieldDescriptor (TX2 k).2.2.1 = some (tyX2 k) := by decide +kernel
abbrev cX2_init : ByteArray := prog_4_method_1_code
def yX2_init : MethodName := ⟨RX2, "<init>", "()V"⟩
abbrev cX2_copyFrom : ByteArray := prog_4_method_2_code
def yX2_copyFrom : MethodName := ⟨RX2, "copyFrom", "(LSweetWraps$Machine;)V"⟩
abbrev cX2_changeSetting : ByteArray := prog_4_method_3_code
def yX2_changeSetting : MethodName := ⟨RX2, "changeSetting", "(II)I"⟩
abbrev cX2_addSweets : ByteArray := prog_4_method_4_code
def yX2_addSweets : MethodName := ⟨RX2, "addSweets", "(III)I"⟩
abbrev cX2_addFoil : ByteArray := prog_4_method_5_code
def yX2_addFoil : MethodName := ⟨RX2, "addFoil", "(II)I"⟩
abbrev cX2_addTin : ByteArray := prog_4_method_6_code
def yX2_addTin : MethodName := ⟨RX2, "addTin", "()I"⟩
abbrev cX2_shipTin : ByteArray := prog_4_method_7_code
def yX2_shipTin : MethodName := ⟨RX2, "shipTin", "(I)I"⟩
abbrev cX2_changeApart : ByteArray := prog_4_method_8_code
def yX2_changeApart : MethodName := ⟨RX2, "changeApart", "(II)I"⟩
abbrev cX2_switchApart : ByteArray := prog_4_method_9_code
def yX2_switchApart : MethodName := ⟨RX2, "switchApart", "(II)V"⟩
abbrev cX2_runTicks : ByteArray := prog_4_method_10_code
def yX2_runTicks : MethodName := ⟨RX2, "runTicks", "(I)I"⟩
abbrev cX2_work : ByteArray := prog_4_method_11_code
def yX2_work : MethodName := ⟨RX2, "work", "(I)I"⟩
abbrev cX2_workLane : ByteArray := prog_4_method_12_code
def yX2_workLane : MethodName := ⟨RX2, "workLane", "(LSweetWraps$Lane;)I"⟩
abbrev cX2_foilOfPull : ByteArray := prog_4_method_13_code
def yX2_foilOfPull : MethodName := ⟨RX2, "foilOfPull", "()I"⟩
abbrev cX2_pullsUntilTear : ByteArray := prog_4_method_14_code
def yX2_pullsUntilTear : MethodName := ⟨RX2, "pullsUntilTear", "()I"⟩
abbrev cX2_reasonOf : ByteArray := prog_4_method_15_code
def yX2_reasonOf : MethodName := ⟨RX2, "reasonOf", "(LSweetWraps$Lane;I)I"⟩
abbrev cX2_reasonNow : ByteArray := prog_4_method_16_code
def yX2_reasonNow : MethodName := ⟨RX2, "reasonNow", "(LSweetWraps$Lane;)I"⟩
abbrev cX2_tinFor : ByteArray := prog_4_method_17_code
def yX2_tinFor : MethodName := ⟨RX2, "tinFor", "(I)I"⟩
abbrev cX2_laneFact : ByteArray := prog_4_method_18_code
def yX2_laneFact : MethodName := ⟨RX2, "laneFact", "(II)I"⟩
abbrev cX2_heapFact : ByteArray := prog_4_method_19_code
def yX2_heapFact : MethodName := ⟨RX2, "heapFact", "(III)I"⟩
abbrev cX2_overLanes : ByteArray := prog_4_method_20_code
def yX2_overLanes : MethodName := ⟨RX2, "overLanes", "(I)I"⟩
abbrev cX2_standingLanes : ByteArray := prog_4_method_21_code
def yX2_standingLanes : MethodName := ⟨RX2, "standingLanes", "()I"⟩
abbrev cX2_isTin : ByteArray := prog_4_method_22_code
def yX2_isTin : MethodName := ⟨RX2, "isTin", "(I)Z"⟩
abbrev cX2_isOpen : ByteArray := prog_4_method_23_code
def yX2_isOpen : MethodName := ⟨RX2, "isOpen", "(I)Z"⟩
abbrev cX2_isOpenTinWithBoth : ByteArray := prog_4_method_24_code
def yX2_isOpenTinWithBoth : MethodName := ⟨RX2, "isOpenTinWithBoth", "(II)Z"⟩
abbrev cX2_tinFact : ByteArray := prog_4_method_25_code
def yX2_tinFact : MethodName := ⟨RX2, "tinFact", "(II)I"⟩
abbrev cX2_flavoursTakenBy : ByteArray := prog_4_method_26_code
def yX2_flavoursTakenBy : MethodName := ⟨RX2, "flavoursTakenBy", "(LSweetWraps$Tin;)I"⟩
abbrev cX2_sweetsInTin : ByteArray := prog_4_method_27_code
def yX2_sweetsInTin : MethodName := ⟨RX2, "sweetsInTin", "(II)I"⟩
abbrev cX2_tinsThatAre : ByteArray := prog_4_method_28_code
def yX2_tinsThatAre : MethodName := ⟨RX2, "tinsThatAre", "(Z)I"⟩
abbrev cX2_sweetsShipped : ByteArray := prog_4_method_29_code
def yX2_sweetsShipped : MethodName := ⟨RX2, "sweetsShipped", "()I"⟩
abbrev cX2_tinOfRank : ByteArray := prog_4_method_30_code
def yX2_tinOfRank : MethodName := ⟨RX2, "tinOfRank", "(I)I"⟩
abbrev cX2_openTinsAhead : ByteArray := prog_4_method_31_code
def yX2_openTinsAhead : MethodName := ⟨RX2, "openTinsAhead", "(I)I"⟩
abbrev cX2_flavourFact : ByteArray := prog_4_method_32_code
def yX2_flavourFact : MethodName := ⟨RX2, "flavourFact", "(II)I"⟩
abbrev cX2_sweetsInHoppers : ByteArray := prog_4_method_33_code
def yX2_sweetsInHoppers : MethodName := ⟨RX2, "sweetsInHoppers", "(I)I"⟩
abbrev cX2_sweetsInTins : ByteArray := prog_4_method_34_code
def yX2_sweetsInTins : MethodName := ⟨RX2, "sweetsInTins", "(IZ)I"⟩
abbrev cX2_sweetsInAllTins : ByteArray := prog_4_method_35_code
def yX2_sweetsInAllTins : MethodName := ⟨RX2, "sweetsInAllTins", "(I)I"⟩
abbrev cX2_flavourOfRank : ByteArray := prog_4_method_36_code
def yX2_flavourOfRank : MethodName := ⟨RX2, "flavourOfRank", "(I)I"⟩
abbrev cX2_flavoursAhead : ByteArray := prog_4_method_37_code
def yX2_flavoursAhead : MethodName := ⟨RX2, "flavoursAhead", "(I)I"⟩
abbrev cX2_tinsForHoppers : ByteArray := prog_4_method_38_code
def yX2_tinsForHoppers : MethodName := ⟨RX2, "tinsForHoppers", "()I"⟩
abbrev cX2_number : ByteArray := prog_4_method_39_code
def yX2_number : MethodName := ⟨RX2, "number", "(I)I"⟩
def RX3 : String := "SweetWraps$Pad"
def TX3 : u_T := fun k => match k with
  | 0 => ("SweetWraps$Pad", "signs", "[C", true)
  | 1 => ("SweetWraps$Pad", "values", "[I", true)
  | 2 => ("SweetWraps$Pad", "length", "I", false)
  | 3 => ("SweetWraps$Pad", "place", "I", false)
  | 4 => ("SweetWraps$Pad", "kind", "I", false)
  | _ => ("SweetWraps$Pad", "valueCount", "I", false)
def tyX3 : Nat → FieldType := fun k => match k with
  | 0 => .array .char
  | 1 => .array .int
  | 2 => .int
  | 3 => .int
  | 4 => .int
  | _ => .int
abbrev wsX30 : List Cond := u_ws RX3 TX3 6
theorem nmX3 : ∀ a, a < 6 → ∀ b, b < 6 → a ≠ b → (TX3 a).2.1 ≠ (TX3 b).2.1 := by decide +kernel
theorem tyX3_ok : ∀ k, k < 6 → parseFieldDescriptor (TX3 k).2.2.1 = some (tyX3 k) := by decide +kernel
abbrev cX3_init : ByteArray := prog_5_method_1_code
def yX3_init : MethodName := ⟨RX3, "<init>", "()V"⟩
abbrev cX3_append : ByteArray := prog_5_method_2_code
def yX3_append : MethodName := ⟨RX3, "append", "(J)I"⟩
abbrev cX3_charactersIn : ByteArray := prog_5_method_3_code
def yX3_charactersIn : MethodName := ⟨RX3, "charactersIn", "(J)I"⟩
abbrev cX3_clear : ByteArray := prog_5_method_4_code
def yX3_clear : MethodName := ⟨RX3, "clear", "()I"⟩
abbrev cX3_findFault : ByteArray := prog_5_method_5_code
def yX3_findFault : MethodName := ⟨RX3, "findFault", "()I"⟩
abbrev cX3_startReading : ByteArray := prog_5_method_6_code
def yX3_startReading : MethodName := ⟨RX3, "startReading", "()V"⟩
abbrev cX3_readOrder : ByteArray := prog_5_method_7_code
def yX3_readOrder : MethodName := ⟨RX3, "readOrder", "()Z"⟩
abbrev cX3_shapeOf : ByteArray := prog_5_method_8_code
def yX3_shapeOf : MethodName := ⟨RX3, "shapeOf", "(I)Ljava/lang/String;"⟩
abbrev cX3_readPart : ByteArray := prog_5_method_9_code
def yX3_readPart : MethodName := ⟨RX3, "readPart", "(I)Z"⟩
abbrev cX3_readSign : ByteArray := prog_5_method_10_code
def yX3_readSign : MethodName := ⟨RX3, "readSign", "(I)Z"⟩
abbrev cX3_readDigit : ByteArray := prog_5_method_11_code
def yX3_readDigit : MethodName := ⟨RX3, "readDigit", "()Z"⟩
abbrev cX3_readNumber : ByteArray := prog_5_method_12_code
def yX3_readNumber : MethodName := ⟨RX3, "readNumber", "()Z"⟩
abbrev cX3_keepValue : ByteArray := prog_5_method_13_code
def yX3_keepValue : MethodName := ⟨RX3, "keepValue", "(I)V"⟩
abbrev cX3_isDigitHere : ByteArray := prog_5_method_14_code
def yX3_isDigitHere : MethodName := ⟨RX3, "isDigitHere", "()Z"⟩
abbrev cX3_signHere : ByteArray := prog_5_method_15_code
def yX3_signHere : MethodName := ⟨RX3, "signHere", "()I"⟩
def RX4 : String := "SweetWraps$Tin"
def TX4 : u_T := fun k => match k with
  | 0 => ("SweetWraps$Tin", "sweets", "[I", true)
  | 1 => ("SweetWraps$Tin", "flavours", "I", false)
  | 2 => ("SweetWraps$Tin", "total", "I", false)
  | _ => ("SweetWraps$Tin", "shipped", "Z", false)
def tyX4 : Nat → FieldType := fun k => match k with
  | 0 => .array .int
  | 1 => .int
  | 2 => .int
  | _ => .boolean
abbrev wsX40 : List Cond := u_ws RX4 TX4 4
theorem nmX4 : ∀ a, a < 4 → ∀ b, b < 4 → a ≠ b → (TX4 a).2.1 ≠ (TX4 b).2.1 := by decide +kernel
theorem tyX4_ok : ∀ k, k < 4 → parseFieldDescriptor (TX4 k).2.2.1 = some (tyX4 k) := by decide +kernel
abbrev cX4_init : ByteArray := prog_6_method_1_code
def yX4_init : MethodName := ⟨RX4, "<init>", "()V"⟩
abbrev cX4_copyFrom : ByteArray := prog_6_method_2_code
def yX4_copyFrom : MethodName := ⟨RX4, "copyFrom", "(LSweetWraps$Tin;)V"⟩
abbrev cX4_hasRoomFor : ByteArray := prog_6_method_3_code
def yX4_hasRoomFor : MethodName := ⟨RX4, "hasRoomFor", "(II)Z"⟩
abbrev cX4_add : ByteArray := prog_6_method_4_code
def yX4_add : MethodName := ⟨RX4, "add", "(I)V"⟩
def RX5 : String := "SweetWraps"
def TX5 : u_T := fun k => match k with
  | 0 => ("SweetWraps", "now", "LSweetWraps$Machine;", true)
  | 1 => ("SweetWraps", "trial", "LSweetWraps$Machine;", true)
  | 2 => ("SweetWraps", "history", "LSweetWraps$History;", true)
  | 3 => ("SweetWraps", "slots", "[LSweetWraps$Machine;", true)
  | 4 => ("SweetWraps", "saved", "[Z", true)
  | _ => ("SweetWraps", "pad", "LSweetWraps$Pad;", true)
def tyX5 : Nat → FieldType := fun k => match k with
  | 0 => .object "SweetWraps$Machine"
  | 1 => .object "SweetWraps$Machine"
  | 2 => .object "SweetWraps$History"
  | 3 => .array (.object "SweetWraps$Machine")
  | 4 => .array .boolean
  | _ => .object "SweetWraps$Pad"
abbrev wsX50 : List Cond := u_ws RX5 TX5 6
theorem nmX5 : ∀ a, a < 6 → ∀ b, b < 6 → a ≠ b → (TX5 a).2.1 ≠ (TX5 b).2.1 := by decide +kernel
theorem tyX5_ok : ∀ k, k < 6 → parseFieldDescriptor (TX5 k).2.2.1 = some (tyX5 k) := by decide +kernel
abbrev cX5_init : ByteArray := prog_1_method_1_code
def yX5_init : MethodName := ⟨RX5, "<init>", "()V"⟩
abbrev cX5_set : ByteArray := prog_1_method_2_code
def yX5_set : MethodName := ⟨RX5, "set", "(II)I"⟩
abbrev cX5_heap : ByteArray := prog_1_method_3_code
def yX5_heap : MethodName := ⟨RX5, "heap", "(III)I"⟩
abbrev cX5_foil : ByteArray := prog_1_method_4_code
def yX5_foil : MethodName := ⟨RX5, "foil", "(II)I"⟩
abbrev cX5_tin : ByteArray := prog_1_method_5_code
def yX5_tin : MethodName := ⟨RX5, "tin", "()I"⟩
abbrev cX5_ship : ByteArray := prog_1_method_6_code
def yX5_ship : MethodName := ⟨RX5, "ship", "(I)I"⟩
abbrev cX5_apart : ByteArray := prog_1_method_7_code
def yX5_apart : MethodName := ⟨RX5, "apart", "(II)I"⟩
abbrev cX5_run : ByteArray := prog_1_method_8_code
def yX5_run : MethodName := ⟨RX5, "run", "(I)I"⟩
abbrev cX5_of : ByteArray := prog_1_method_9_code
def yX5_of : MethodName := ⟨RX5, "of", "(II)I"⟩
abbrev cX5_ofHeap : ByteArray := prog_1_method_10_code
def yX5_ofHeap : MethodName := ⟨RX5, "ofHeap", "(III)I"⟩
abbrev cX5_ofTin : ByteArray := prog_1_method_11_code
def yX5_ofTin : MethodName := ⟨RX5, "ofTin", "(II)I"⟩
abbrev cX5_inTin : ByteArray := prog_1_method_12_code
def yX5_inTin : MethodName := ⟨RX5, "inTin", "(II)I"⟩
abbrev cX5_flavour : ByteArray := prog_1_method_13_code
def yX5_flavour : MethodName := ⟨RX5, "flavour", "(II)I"⟩
abbrev cX5_byRoom : ByteArray := prog_1_method_14_code
def yX5_byRoom : MethodName := ⟨RX5, "byRoom", "(I)I"⟩
abbrev cX5_byCount : ByteArray := prog_1_method_15_code
def yX5_byCount : MethodName := ⟨RX5, "byCount", "(I)I"⟩
abbrev cX5_count : ByteArray := prog_1_method_16_code
def yX5_count : MethodName := ⟨RX5, "count", "(I)I"⟩
abbrev cX5_stands : ByteArray := prog_1_method_17_code
def yX5_stands : MethodName := ⟨RX5, "stands", "(II)I"⟩
abbrev cX5_bestSpeed : ByteArray := prog_1_method_18_code
def yX5_bestSpeed : MethodName := ⟨RX5, "bestSpeed", "(II)I"⟩
abbrev cX5_ifApart : ByteArray := prog_1_method_19_code
def yX5_ifApart : MethodName := ⟨RX5, "ifApart", "(III)I"⟩
abbrev cX5_tinsFor : ByteArray := prog_1_method_20_code
def yX5_tinsFor : MethodName := ⟨RX5, "tinsFor", "()I"⟩
abbrev cX5_put : ByteArray := prog_1_method_21_code
def yX5_put : MethodName := ⟨RX5, "put", "(J)I"⟩
abbrev cX5_wipe : ByteArray := prog_1_method_22_code
def yX5_wipe : MethodName := ⟨RX5, "wipe", "()I"⟩
abbrev cX5_fault : ByteArray := prog_1_method_23_code
def yX5_fault : MethodName := ⟨RX5, "fault", "()I"⟩
abbrev cX5_carryOut : ByteArray := prog_1_method_24_code
def yX5_carryOut : MethodName := ⟨RX5, "carryOut", "()I"⟩
abbrev cX5_carryOrder : ByteArray := prog_1_method_25_code
def yX5_carryOrder : MethodName := ⟨RX5, "carryOrder", "()I"⟩
abbrev cX5_undo : ByteArray := prog_1_method_26_code
def yX5_undo : MethodName := ⟨RX5, "undo", "()I"⟩
abbrev cX5_save : ByteArray := prog_1_method_27_code
def yX5_save : MethodName := ⟨RX5, "save", "(I)I"⟩
abbrev cX5_restore : ByteArray := prog_1_method_28_code
def yX5_restore : MethodName := ⟨RX5, "restore", "(I)I"⟩
abbrev cX5_isIndex : ByteArray := prog_1_method_29_code
def yX5_isIndex : MethodName := ⟨RX5, "isIndex", "(II)Z"⟩
abbrev cX5_isBetween : ByteArray := prog_1_method_30_code
def yX5_isBetween : MethodName := ⟨RX5, "isBetween", "(III)Z"⟩
abbrev cX5_copyNumbers : ByteArray := prog_1_method_31_code
def yX5_copyNumbers : MethodName := ⟨RX5, "copyNumbers", "([I[I)V"⟩
def RX6 : String := "SweetWrapsModel"
def TX6 : u_T := fun k => match k with
  | 0 => ("SweetWrapsModel", "s", "[I", true)
  | 1 => ("SweetWrapsModel", "aside", "[I", true)
  | 2 => ("SweetWrapsModel", "before", "[I", true)
  | 3 => ("SweetWrapsModel", "known", "I", false)
  | 4 => ("SweetWrapsModel", "kept", "[I", true)
  | 5 => ("SweetWrapsModel", "isKept", "[Z", true)
  | 6 => ("SweetWrapsModel", "pad", "[I", true)
  | 7 => ("SweetWrapsModel", "length", "I", false)
  | 8 => ("SweetWrapsModel", "stood", "[I", true)
  | 9 => ("SweetWrapsModel", "place", "I", false)
  | _ => ("SweetWrapsModel", "isWrong", "Z", false)
def tyX6 : Nat → FieldType := fun k => match k with
  | 0 => .array .int
  | 1 => .array .int
  | 2 => .array .int
  | 3 => .int
  | 4 => .array .int
  | 5 => .array .boolean
  | 6 => .array .int
  | 7 => .int
  | 8 => .array .int
  | 9 => .int
  | _ => .boolean
abbrev wsX60 : List Cond := u_ws RX6 TX6 11
theorem nmX6 : ∀ a, a < 11 → ∀ b, b < 11 → a ≠ b → (TX6 a).2.1 ≠ (TX6 b).2.1 := by decide +kernel
theorem tyX6_ok : ∀ k, k < 11 → parseFieldDescriptor (TX6 k).2.2.1 = some (tyX6 k) := by decide +kernel
abbrev cX6_init : ByteArray := prog_8_method_1_code
def yX6_init : MethodName := ⟨RX6, "<init>", "()V"⟩
abbrev cX6_in : ByteArray := prog_8_method_3_code
def yX6_in : MethodName := ⟨RX6, "in", "(III)Z"⟩
abbrev cX6_putAside : ByteArray := prog_8_method_4_code
def yX6_putAside : MethodName := ⟨RX6, "putAside", "()V"⟩
abbrev cX6_putBack : ByteArray := prog_8_method_5_code
def yX6_putBack : MethodName := ⟨RX6, "putBack", "()V"⟩
abbrev cX6_record : ByteArray := prog_8_method_6_code
def yX6_record : MethodName := ⟨RX6, "record", "()V"⟩
abbrev cX6_isLane : ByteArray := prog_8_method_7_code
def yX6_isLane : MethodName := ⟨RX6, "isLane", "(I)Z"⟩
abbrev cX6_isFlavour : ByteArray := prog_8_method_8_code
def yX6_isFlavour : MethodName := ⟨RX6, "isFlavour", "(I)Z"⟩
abbrev cX6_lane : ByteArray := prog_8_method_9_code
def yX6_lane : MethodName := ⟨RX6, "lane", "(II)I"⟩
abbrev cX6_heapFlavour : ByteArray := prog_8_method_10_code
def yX6_heapFlavour : MethodName := ⟨RX6, "heapFlavour", "(II)I"⟩
abbrev cX6_heapMany : ByteArray := prog_8_method_11_code
def yX6_heapMany : MethodName := ⟨RX6, "heapMany", "(II)I"⟩
abbrev cX6_inHopper : ByteArray := prog_8_method_12_code
def yX6_inHopper : MethodName := ⟨RX6, "inHopper", "(I)I"⟩
abbrev cX6_takeSweet : ByteArray := prog_8_method_13_code
def yX6_takeSweet : MethodName := ⟨RX6, "takeSweet", "(I)V"⟩
abbrev cX6_inside : ByteArray := prog_8_method_14_code
def yX6_inside : MethodName := ⟨RX6, "inside", "(II)I"⟩
abbrev cX6_isShipped : ByteArray := prog_8_method_15_code
def yX6_isShipped : MethodName := ⟨RX6, "isShipped", "(I)Z"⟩
abbrev cX6_sweets : ByteArray := prog_8_method_16_code
def yX6_sweets : MethodName := ⟨RX6, "sweets", "(I)I"⟩
abbrev cX6_flavoursOf : ByteArray := prog_8_method_17_code
def yX6_flavoursOf : MethodName := ⟨RX6, "flavoursOf", "(I)I"⟩
abbrev cX6_takes : ByteArray := prog_8_method_18_code
def yX6_takes : MethodName := ⟨RX6, "takes", "(II)Z"⟩
abbrev cX6_tinFor : ByteArray := prog_8_method_19_code
def yX6_tinFor : MethodName := ⟨RX6, "tinFor", "(I)I"⟩
abbrev cX6_reason : ByteArray := prog_8_method_20_code
def yX6_reason : MethodName := ⟨RX6, "reason", "(I)I"⟩
abbrev cX6_tryOnce : ByteArray := prog_8_method_21_code
def yX6_tryOnce : MethodName := ⟨RX6, "tryOnce", "(I)I"⟩
abbrev cX6_tick : ByteArray := prog_8_method_22_code
def yX6_tick : MethodName := ⟨RX6, "tick", "()I"⟩
abbrev cX6_runs : ByteArray := prog_8_method_23_code
def yX6_runs : MethodName := ⟨RX6, "runs", "(I)I"⟩
abbrev cX6_heaps : ByteArray := prog_8_method_24_code
def yX6_heaps : MethodName := ⟨RX6, "heaps", "(III)I"⟩
abbrev cX6_foils : ByteArray := prog_8_method_25_code
def yX6_foils : MethodName := ⟨RX6, "foils", "(II)I"⟩
abbrev cX6_tins : ByteArray := prog_8_method_26_code
def yX6_tins : MethodName := ⟨RX6, "tins", "()I"⟩
abbrev cX6_ships : ByteArray := prog_8_method_27_code
def yX6_ships : MethodName := ⟨RX6, "ships", "(I)I"⟩
abbrev cX6_areApart : ByteArray := prog_8_method_28_code
def yX6_areApart : MethodName := ⟨RX6, "areApart", "(II)Z"⟩
abbrev cX6_turn : ByteArray := prog_8_method_29_code
def yX6_turn : MethodName := ⟨RX6, "turn", "(II)V"⟩
abbrev cX6_keepsApart : ByteArray := prog_8_method_30_code
def yX6_keepsApart : MethodName := ⟨RX6, "keepsApart", "(II)I"⟩
abbrev cX6_goes : ByteArray := prog_8_method_31_code
def yX6_goes : MethodName := ⟨RX6, "goes", "(I)I"⟩
abbrev cX6_end : ByteArray := prog_8_method_32_code
def yX6_end : MethodName := ⟨RX6, "end", "(I)I"⟩
abbrev cX6_set : ByteArray := prog_8_method_33_code
def yX6_set : MethodName := ⟨RX6, "set", "(II)I"⟩
abbrev cX6_heap : ByteArray := prog_8_method_34_code
def yX6_heap : MethodName := ⟨RX6, "heap", "(III)I"⟩
abbrev cX6_foil : ByteArray := prog_8_method_35_code
def yX6_foil : MethodName := ⟨RX6, "foil", "(II)I"⟩
abbrev cX6_tin : ByteArray := prog_8_method_36_code
def yX6_tin : MethodName := ⟨RX6, "tin", "()I"⟩
abbrev cX6_ship : ByteArray := prog_8_method_37_code
def yX6_ship : MethodName := ⟨RX6, "ship", "(I)I"⟩
abbrev cX6_apart : ByteArray := prog_8_method_38_code
def yX6_apart : MethodName := ⟨RX6, "apart", "(II)I"⟩
abbrev cX6_run : ByteArray := prog_8_method_39_code
def yX6_run : MethodName := ⟨RX6, "run", "(I)I"⟩
abbrev cX6_of : ByteArray := prog_8_method_40_code
def yX6_of : MethodName := ⟨RX6, "of", "(II)I"⟩
abbrev cX6_ofHeap : ByteArray := prog_8_method_41_code
def yX6_ofHeap : MethodName := ⟨RX6, "ofHeap", "(III)I"⟩
abbrev cX6_taken : ByteArray := prog_8_method_42_code
def yX6_taken : MethodName := ⟨RX6, "taken", "(I)I"⟩
abbrev cX6_ofTin : ByteArray := prog_8_method_43_code
def yX6_ofTin : MethodName := ⟨RX6, "ofTin", "(II)I"⟩
abbrev cX6_inTin : ByteArray := prog_8_method_44_code
def yX6_inTin : MethodName := ⟨RX6, "inTin", "(II)I"⟩
abbrev cX6_inHoppers : ByteArray := prog_8_method_45_code
def yX6_inHoppers : MethodName := ⟨RX6, "inHoppers", "(I)I"⟩
abbrev cX6_inTins : ByteArray := prog_8_method_46_code
def yX6_inTins : MethodName := ⟨RX6, "inTins", "(II)I"⟩
abbrev cX6_flavour : ByteArray := prog_8_method_47_code
def yX6_flavour : MethodName := ⟨RX6, "flavour", "(II)I"⟩
abbrev cX6_byRoom : ByteArray := prog_8_method_48_code
def yX6_byRoom : MethodName := ⟨RX6, "byRoom", "(I)I"⟩
abbrev cX6_inAll : ByteArray := prog_8_method_49_code
def yX6_inAll : MethodName := ⟨RX6, "inAll", "(I)I"⟩
abbrev cX6_byCount : ByteArray := prog_8_method_50_code
def yX6_byCount : MethodName := ⟨RX6, "byCount", "(I)I"⟩
abbrev cX6_tinSet : ByteArray := prog_8_method_51_code
def yX6_tinSet : MethodName := ⟨RX6, "tinSet", "(I)I"⟩
abbrev cX6_lanes : ByteArray := prog_8_method_52_code
def yX6_lanes : MethodName := ⟨RX6, "lanes", "(I)I"⟩
abbrev cX6_shippedSweets : ByteArray := prog_8_method_53_code
def yX6_shippedSweets : MethodName := ⟨RX6, "shippedSweets", "()I"⟩
abbrev cX6_failing : ByteArray := prog_8_method_54_code
def yX6_failing : MethodName := ⟨RX6, "failing", "()I"⟩
abbrev cX6_count : ByteArray := prog_8_method_55_code
def yX6_count : MethodName := ⟨RX6, "count", "(I)I"⟩
abbrev cX6_stands : ByteArray := prog_8_method_56_code
def yX6_stands : MethodName := ⟨RX6, "stands", "(II)I"⟩
abbrev cX6_bestSpeed : ByteArray := prog_8_method_57_code
def yX6_bestSpeed : MethodName := ⟨RX6, "bestSpeed", "(II)I"⟩
abbrev cX6_ifApart : ByteArray := prog_8_method_58_code
def yX6_ifApart : MethodName := ⟨RX6, "ifApart", "(III)I"⟩
abbrev cX6_tinsFor : ByteArray := prog_8_method_59_code
def yX6_tinsFor : MethodName := ⟨RX6, "tinsFor", "()I"⟩
abbrev cX6_code : ByteArray := prog_8_method_60_code
def yX6_code : MethodName := ⟨RX6, "code", "(JI)I"⟩
abbrev cX6_put : ByteArray := prog_8_method_61_code
def yX6_put : MethodName := ⟨RX6, "put", "(J)I"⟩
abbrev cX6_wipe : ByteArray := prog_8_method_62_code
def yX6_wipe : MethodName := ⟨RX6, "wipe", "()I"⟩
abbrev cX6_sign : ByteArray := prog_8_method_63_code
def yX6_sign : MethodName := ⟨RX6, "sign", "(II)I"⟩
abbrev cX6_number : ByteArray := prog_8_method_64_code
def yX6_number : MethodName := ⟨RX6, "number", "()I"⟩
abbrev cX6_isNext : ByteArray := prog_8_method_65_code
def yX6_isNext : MethodName := ⟨RX6, "isNext", "(I)Z"⟩
abbrev cX6_order : ByteArray := prog_8_method_66_code
def yX6_order : MethodName := ⟨RX6, "order", "(Z)I"⟩
abbrev cX6_go : ByteArray := prog_8_method_67_code
def yX6_go : MethodName := ⟨RX6, "go", "(Z)I"⟩
abbrev cX6_fault : ByteArray := prog_8_method_68_code
def yX6_fault : MethodName := ⟨RX6, "fault", "()I"⟩
abbrev cX6_carryOut : ByteArray := prog_8_method_69_code
def yX6_carryOut : MethodName := ⟨RX6, "carryOut", "()I"⟩
abbrev cX6_undo : ByteArray := prog_8_method_70_code
def yX6_undo : MethodName := ⟨RX6, "undo", "()I"⟩
abbrev cX6_save : ByteArray := prog_8_method_71_code
def yX6_save : MethodName := ⟨RX6, "save", "(I)I"⟩
abbrev cX6_restore : ByteArray := prog_8_method_72_code
def yX6_restore : MethodName := ⟨RX6, "restore", "(I)I"⟩
def RJ9 : String := "java/lang/Math"
def TJ9 : u_T := fun k => match k with
  | _ => ("", "", "", false)
def tyJ9 : Nat → FieldType := fun k => match k with
  | _ => .int
abbrev wsJ90 : List Cond := u_ws RJ9 TJ9 0
theorem nmJ9 : ∀ a, a < 0 → ∀ b, b < 0 → a ≠ b → (TJ9 a).2.1 ≠ (TJ9 b).2.1 := by decide +kernel
theorem tyJ9_ok : ∀ k, k < 0 → parseFieldDescriptor (TJ9 k).2.2.1 = some (tyJ9 k) := by decide +kernel
abbrev cJ9_max_7cf53 : ByteArray := prog_9_method_65_code
def yJ9_max_7cf53 : MethodName := ⟨RJ9, "max", "(II)I"⟩
abbrev cJ9_min_7cf53 : ByteArray := prog_9_method_69_code
def yJ9_min_7cf53 : MethodName := ⟨RJ9, "min", "(II)I"⟩
def RJ0 : String := "java/lang/String"
def TJ0 : u_T := fun k => match k with
  | _ => ("", "", "", false)
def tyJ0 : Nat → FieldType := fun k => match k with
  | _ => .int
abbrev wsJ00 : List Cond := u_ws RJ0 TJ0 0
theorem nmJ0 : ∀ a, a < 0 → ∀ b, b < 0 → a ≠ b → (TJ0 a).2.1 ≠ (TJ0 b).2.1 := by decide +kernel
theorem tyJ0_ok : ∀ k, k < 0 → parseFieldDescriptor (TJ0 k).2.2.1 = some (tyJ0 k) := by decide +kernel
abbrev cJ0_length_8abf5 : ByteArray := prog_10_method_54_code
def yJ0_length_8abf5 : MethodName := ⟨RJ0, "length", "()I"⟩
abbrev cJ0_isEmpty_aae02 : ByteArray := prog_10_method_55_code
def yJ0_isEmpty_aae02 : MethodName := ⟨RJ0, "isEmpty", "()Z"⟩
abbrev cJ0_charAt_5068e : ByteArray := prog_10_method_56_code
def yJ0_charAt_5068e : MethodName := ⟨RJ0, "charAt", "(I)C"⟩
abbrev cJ0_coder_7d493 : ByteArray := prog_10_method_152_code
def yJ0_coder_7d493 : MethodName := ⟨RJ0, "coder", "()B"⟩
abbrev cJ0_isLatin1_aae02 : ByteArray := prog_10_method_154_code
def yJ0_isLatin1_aae02 : MethodName := ⟨RJ0, "isLatin1", "()Z"⟩
abbrev cJ0_checkIndex_df160 : ByteArray := prog_10_method_155_code
def yJ0_checkIndex_df160 : MethodName := ⟨RJ0, "checkIndex", "(II)V"⟩
def RJ1 : String := "java/lang/StringLatin1"
def TJ1 : u_T := fun k => match k with
  | _ => ("", "", "", false)
def tyJ1 : Nat → FieldType := fun k => match k with
  | _ => .int
abbrev wsJ10 : List Cond := u_ws RJ1 TJ1 0
theorem nmJ1 : ∀ a, a < 0 → ∀ b, b < 0 → a ≠ b → (TJ1 a).2.1 ≠ (TJ1 b).2.1 := by decide +kernel
theorem tyJ1_ok : ∀ k, k < 0 → parseFieldDescriptor (TJ1 k).2.2.1 = some (tyJ1 k) := by decide +kernel
abbrev cJ1_charAt_3b067 : ByteArray := prog_11_method_2_code
def yJ1_charAt_3b067 : MethodName := ⟨RJ1, "charAt", "([BI)C"⟩
def RJ2 : String := "java/lang/StringUTF16"
def TJ2 : u_T := fun k => match k with
  | _ => ("", "", "", false)
def tyJ2 : Nat → FieldType := fun k => match k with
  | _ => .int
abbrev wsJ20 : List Cond := u_ws RJ2 TJ2 0
theorem nmJ2 : ∀ a, a < 0 → ∀ b, b < 0 → a ≠ b → (TJ2 a).2.1 ≠ (TJ2 b).2.1 := by decide +kernel
theorem tyJ2_ok : ∀ k, k < 0 → parseFieldDescriptor (TJ2 k).2.2.1 = some (tyJ2 k) := by decide +kernel
abbrev cJ2_getChar_3b067 : ByteArray := prog_12_method_5_code
def yJ2_getChar_3b067 : MethodName := ⟨RJ2, "getChar", "([BI)C"⟩
abbrev cJ2_length_9d52b : ByteArray := prog_12_method_6_code
def yJ2_length_9d52b : MethodName := ⟨RJ2, "length", "([B)I"⟩
abbrev cJ2_charAt_3b067 : ByteArray := prog_12_method_83_code
def yJ2_charAt_3b067 : MethodName := ⟨RJ2, "charAt", "([BI)C"⟩
abbrev cJ2_checkIndex_2214a : ByteArray := prog_12_method_91_code
def yJ2_checkIndex_2214a : MethodName := ⟨RJ2, "checkIndex", "(I[B)V"⟩
def RJ10 : String := "java/lang/System"
def TJ10 : u_T := fun k => match k with
  | _ => ("", "", "", false)
def tyJ10 : Nat → FieldType := fun k => match k with
  | _ => .int
abbrev wsJ100 : List Cond := u_ws RJ10 TJ10 0
theorem nmJ10 : ∀ a, a < 0 → ∀ b, b < 0 → a ≠ b → (TJ10 a).2.1 ≠ (TJ10 b).2.1 := by decide +kernel
theorem tyJ10_ok : ∀ k, k < 0 → parseFieldDescriptor (TJ10 k).2.2.1 = some (tyJ10 k) := by decide +kernel
def RJ3 : String := "jdk/internal/util/Preconditions"
def TJ3 : u_T := fun k => match k with
  | _ => ("", "", "", false)
def tyJ3 : Nat → FieldType := fun k => match k with
  | _ => .int
abbrev wsJ30 : List Cond := u_ws RJ3 TJ3 0
theorem nmJ3 : ∀ a, a < 0 → ∀ b, b < 0 → a ≠ b → (TJ3 a).2.1 ≠ (TJ3 b).2.1 := by decide +kernel
theorem tyJ3_ok : ∀ k, k < 0 → parseFieldDescriptor (TJ3 k).2.2.1 = some (tyJ3 k) := by decide +kernel
abbrev cJ3_checkIndex_8e157 : ByteArray := prog_14_method_11_code
def yJ3_checkIndex_8e157 : MethodName := ⟨RJ3, "checkIndex", "(IILjava/util/function/BiFunction;)I"⟩
def RL : String := "SweetWrapsLaw"
abbrev cL_law : ByteArray := code
def yL_law : MethodName := ⟨RL, "law", "([I)Z"⟩
abbrev vwCl : List vw_C := [(RX0, TX0, 3), (RX1, TX1, 8), (RX2, TX2, 8), (RX3, TX3, 6), (RX4, TX4, 4), (RX5, TX5, 6), (RX6, TX6, 11)]
end
section
/-- the words of the tables that stay true as the machine warms -/
def BIG : List Cond := lw_tbl.filter goodWord
theorem big_good : ∀ w ∈ BIG, w ∈ lw_tbl ∧ goodWord w = true := fun w h => List.mem_filter.mp h
theorem big_in1 (i : Nat) (w : Cond) (h : tables_1_1[i]? = some w) (g : goodWord w = true) : w ∈ BIG := List.mem_filter.mpr ⟨List.mem_append_right _ (show w ∈ tables_1 from List.mem_append_left _ (List.mem_of_getElem? h)), g⟩
theorem big_in2 (i : Nat) (w : Cond) (h : tables_1_2[i]? = some w) (g : goodWord w = true) : w ∈ BIG := List.mem_filter.mpr ⟨List.mem_append_right _ (show w ∈ tables_1 from List.mem_append_right _ (List.mem_append_left _ (List.mem_of_getElem? h))), g⟩
theorem big_in3 (i : Nat) (w : Cond) (h : tables_1_3[i]? = some w) (g : goodWord w = true) : w ∈ BIG := List.mem_filter.mpr ⟨List.mem_append_right _ (show w ∈ tables_1 from List.mem_append_right _ (List.mem_append_right _ (List.mem_append_left _ (List.mem_of_getElem? h)))), g⟩
theorem big_in4 (i : Nat) (w : Cond) (h : tables_1_4[i]? = some w) (g : goodWord w = true) : w ∈ BIG := List.mem_filter.mpr ⟨List.mem_append_right _ (show w ∈ tables_1 from List.mem_append_right _ (List.mem_append_right _ (List.mem_append_right _ (List.mem_append_left _ (List.mem_of_getElem? h))))), g⟩
theorem big_in5 (i : Nat) (w : Cond) (h : tables_1_5[i]? = some w) (g : goodWord w = true) : w ∈ BIG := List.mem_filter.mpr ⟨List.mem_append_right _ (show w ∈ tables_1 from List.mem_append_right _ (List.mem_append_right _ (List.mem_append_right _ (List.mem_append_right _ (List.mem_of_getElem? h))))), g⟩
theorem big_sel (i : Nat) (q : MethodName × Nat) (h : lw_privs[i]? = some q) : Cond.selects q.1.cls q.1 q.1 ∈ BIG := List.mem_filter.mpr ⟨List.mem_append_left _ (List.mem_map.mpr ⟨q, List.mem_of_getElem? h, rfl⟩), rfl⟩
theorem big_GoodIn : GoodIn BIG BIG := fun w h => ⟨h, good_of_word (big_good w h).2⟩
theorem bw_0 : (Cond.initialized "SweetWrapsLaw") ∈ BIG := big_in1 0 _ rfl rfl
theorem bw_1 : (Cond.initialized "SweetWraps") ∈ BIG := big_in1 1 _ rfl rfl
theorem bw_2 : (Cond.initialized "SweetWraps$Machine") ∈ BIG := big_in1 2 _ rfl rfl
theorem bw_3 : (Cond.initialized "SweetWraps$Lane") ∈ BIG := big_in1 3 _ rfl rfl
theorem bw_4 : (Cond.initialized "SweetWraps$Tin") ∈ BIG := big_in1 4 _ rfl rfl
theorem bw_5 : (Cond.initialized "SweetWraps$History") ∈ BIG := big_in1 5 _ rfl rfl
theorem bw_6 : (Cond.initialized "SweetWraps$Pad") ∈ BIG := big_in1 6 _ rfl rfl
theorem bw_7 : (Cond.initialized "SweetWrapsModel") ∈ BIG := big_in1 7 _ rfl rfl
theorem bw_8 : (Cond.initialized "java/lang/Math") ∈ BIG := big_in1 8 _ rfl rfl
theorem bw_9 : (Cond.initialized "java/lang/System") ∈ BIG := big_in1 9 _ rfl rfl
theorem bw_10 : (Cond.initialized "java/lang/String") ∈ BIG := big_in1 10 _ rfl rfl
theorem bw_11 : (Cond.initialized "java/lang/StringLatin1") ∈ BIG := big_in1 11 _ rfl rfl
theorem bw_12 : (Cond.initialized "jdk/internal/util/Preconditions") ∈ BIG := big_in1 12 _ rfl rfl
theorem bw_13 : (Cond.initialized "java/lang/StringUTF16") ∈ BIG := big_in1 13 _ rfl rfl
theorem bw_14 : (Cond.classLink "SweetWrapsLaw" (7 : Nat) "SweetWraps") ∈ BIG := big_in1 14 _ rfl rfl
theorem bw_15 : (Cond.instantiable "SweetWraps" (6 : Nat)) ∈ BIG := big_in1 15 _ rfl rfl
theorem bw_16 : (Cond.methodLink "SweetWrapsLaw" (9 : Nat) ({ cls := "SweetWraps", name := "<init>", desc := "()V" } : MethodName)) ∈ BIG := big_in1 16 _ rfl rfl
theorem bw_17 : (Cond.instanceMethod ({ cls := "SweetWraps", name := "<init>", desc := "()V" } : MethodName)) ∈ BIG := big_in1 17 _ rfl rfl
theorem bw_18 : (Cond.code ({ cls := "SweetWraps", name := "<init>", desc := "()V" } : MethodName) prog_1_method_1_code (2 : Nat) (Option.none : Option ClassFile.FieldType)) ∈ BIG := big_in1 18 _ rfl rfl
theorem bw_19 : (Cond.methodLink "SweetWraps" (1 : Nat) ({ cls := "java/lang/Object", name := "<init>", desc := "()V" } : MethodName)) ∈ BIG := big_in1 19 _ rfl rfl
theorem bw_20 : (Cond.instanceMethod ({ cls := "java/lang/Object", name := "<init>", desc := "()V" } : MethodName)) ∈ BIG := big_in1 20 _ rfl rfl
theorem bw_21 : (Cond.code ({ cls := "java/lang/Object", name := "<init>", desc := "()V" } : MethodName) object_method_1_code (1 : Nat) (Option.none : Option ClassFile.FieldType)) ∈ BIG := big_in1 21 _ rfl rfl
theorem bw_22 : (Cond.classLink "SweetWraps" (7 : Nat) "SweetWraps$Machine") ∈ BIG := big_in1 22 _ rfl rfl
theorem bw_23 : (Cond.instantiable "SweetWraps$Machine" (8 : Nat)) ∈ BIG := big_in1 23 _ rfl rfl
theorem bw_24 : (Cond.methodLink "SweetWraps" (9 : Nat) ({ cls := "SweetWraps$Machine", name := "<init>", desc := "()V" } : MethodName)) ∈ BIG := big_in1 24 _ rfl rfl
theorem bw_25 : (Cond.instanceMethod ({ cls := "SweetWraps$Machine", name := "<init>", desc := "()V" } : MethodName)) ∈ BIG := big_in1 25 _ rfl rfl
theorem bw_26 : (Cond.code ({ cls := "SweetWraps$Machine", name := "<init>", desc := "()V" } : MethodName) prog_4_method_1_code (2 : Nat) (Option.none : Option ClassFile.FieldType)) ∈ BIG := big_in1 26 _ rfl rfl
theorem bw_27 : (Cond.methodLink "SweetWraps$Machine" (3 : Nat) ({ cls := "java/lang/Object", name := "<init>", desc := "()V" } : MethodName)) ∈ BIG := big_in1 27 _ rfl rfl
theorem bw_28 : (Cond.classLink "SweetWraps$Machine" (15 : Nat) "SweetWraps$Lane") ∈ BIG := big_in1 28 _ rfl rfl
theorem bw_30 : (Cond.classLink "SweetWraps$Machine" (21 : Nat) "SweetWraps$Tin") ∈ BIG := big_in1 30 _ rfl rfl
theorem bw_32 : (Cond.instantiable "SweetWraps$Lane" (8 : Nat)) ∈ BIG := big_in1 32 _ rfl rfl
theorem bw_34 : (Cond.instanceMethod ({ cls := "SweetWraps$Lane", name := "<init>", desc := "()V" } : MethodName)) ∈ BIG := big_in1 34 _ rfl rfl
theorem bw_35 : (Cond.code ({ cls := "SweetWraps$Lane", name := "<init>", desc := "()V" } : MethodName) prog_3_method_1_code (1 : Nat) (Option.none : Option ClassFile.FieldType)) ∈ BIG := big_in1 35 _ rfl rfl
theorem bw_36 : (Cond.methodLink "SweetWraps$Lane" (3 : Nat) ({ cls := "java/lang/Object", name := "<init>", desc := "()V" } : MethodName)) ∈ BIG := big_in1 36 _ rfl rfl
theorem bw_37 : (Cond.fieldLink "SweetWraps$Lane" (9 : Nat) "SweetWraps$Lane" "flavours" "[I") ∈ BIG := big_in1 37 _ rfl rfl
theorem bw_38 : (Cond.fieldLink "SweetWraps$Machine" (162 : Nat) "SweetWraps$Lane" "flavours" "[I") ∈ BIG := big_in1 38 _ rfl rfl
theorem bw_39 : (Cond.fieldLink "SweetWraps$Lane" (15 : Nat) "SweetWraps$Lane" "sweets" "[I") ∈ BIG := big_in1 39 _ rfl rfl
theorem bw_40 : (Cond.fieldLink "SweetWraps$Machine" (165 : Nat) "SweetWraps$Lane" "sweets" "[I") ∈ BIG := big_in1 40 _ rfl rfl
theorem bw_41 : (Cond.fieldLink "SweetWraps$Lane" (22 : Nat) "SweetWraps$Lane" "heaps" "I") ∈ BIG := big_in1 41 _ rfl rfl
theorem bw_42 : (Cond.fieldLink "SweetWraps$Machine" (138 : Nat) "SweetWraps$Lane" "heaps" "I") ∈ BIG := big_in1 42 _ rfl rfl
theorem bw_43 : (Cond.fieldLink "SweetWraps$Lane" (26 : Nat) "SweetWraps$Lane" "foilLeft" "I") ∈ BIG := big_in1 43 _ rfl rfl
theorem bw_44 : (Cond.fieldLink "SweetWraps$Machine" (74 : Nat) "SweetWraps$Lane" "foilLeft" "I") ∈ BIG := big_in1 44 _ rfl rfl
theorem bw_45 : (Cond.fieldLink "SweetWraps$Lane" (29 : Nat) "SweetWraps$Lane" "pulls" "I") ∈ BIG := big_in1 45 _ rfl rfl
theorem bw_46 : (Cond.fieldLink "SweetWraps$Machine" (147 : Nat) "SweetWraps$Lane" "pulls" "I") ∈ BIG := big_in1 46 _ rfl rfl
theorem bw_47 : (Cond.fieldLink "SweetWraps$Lane" (32 : Nat) "SweetWraps$Lane" "torn" "I") ∈ BIG := big_in1 47 _ rfl rfl
theorem bw_48 : (Cond.fieldLink "SweetWraps$Machine" (150 : Nat) "SweetWraps$Lane" "torn" "I") ∈ BIG := big_in1 48 _ rfl rfl
theorem bw_49 : (Cond.fieldLink "SweetWraps$Lane" (35 : Nat) "SweetWraps$Lane" "wrapped" "I") ∈ BIG := big_in1 49 _ rfl rfl
theorem bw_50 : (Cond.fieldLink "SweetWraps$Machine" (153 : Nat) "SweetWraps$Lane" "wrapped" "I") ∈ BIG := big_in1 50 _ rfl rfl
theorem bw_51 : (Cond.fieldLink "SweetWraps$Machine" (110 : Nat) "SweetWraps$Lane" "lastReason" "I") ∈ BIG := big_in1 51 _ rfl rfl
theorem bw_52 : (Cond.fieldLink "SweetWraps" (118 : Nat) "SweetWraps$Lane" "lastReason" "I") ∈ BIG := big_in1 52 _ rfl rfl
theorem bw_53 : (Cond.laysFinal "SweetWraps$Lane" "SweetWraps$Lane" "flavours" "[I") ∈ BIG := big_in1 53 _ rfl rfl
theorem bw_55 : (Cond.laysFinal "SweetWraps$Lane" "SweetWraps$Lane" "sweets" "[I") ∈ BIG := big_in1 55 _ rfl rfl
theorem bw_57 : (Cond.lays "SweetWraps$Lane" "SweetWraps$Lane" "heaps" "I") ∈ BIG := big_in1 57 _ rfl rfl
theorem bw_59 : (Cond.lays "SweetWraps$Lane" "SweetWraps$Lane" "foilLeft" "I") ∈ BIG := big_in1 59 _ rfl rfl
theorem bw_61 : (Cond.lays "SweetWraps$Lane" "SweetWraps$Lane" "pulls" "I") ∈ BIG := big_in1 61 _ rfl rfl
theorem bw_63 : (Cond.lays "SweetWraps$Lane" "SweetWraps$Lane" "torn" "I") ∈ BIG := big_in1 63 _ rfl rfl
theorem bw_65 : (Cond.lays "SweetWraps$Lane" "SweetWraps$Lane" "wrapped" "I") ∈ BIG := big_in1 65 _ rfl rfl
theorem bw_67 : (Cond.lays "SweetWraps$Lane" "SweetWraps$Lane" "lastReason" "I") ∈ BIG := big_in1 67 _ rfl rfl
theorem bw_70 : (Cond.arrayClass ClassFile.FieldType.int) ∈ BIG := big_in1 70 _ rfl rfl
theorem bw_71 : (Cond.instantiable "SweetWraps$Tin" (4 : Nat)) ∈ BIG := big_in1 71 _ rfl rfl
theorem bw_73 : (Cond.instanceMethod ({ cls := "SweetWraps$Tin", name := "<init>", desc := "()V" } : MethodName)) ∈ BIG := big_in1 73 _ rfl rfl
theorem bw_74 : (Cond.code ({ cls := "SweetWraps$Tin", name := "<init>", desc := "()V" } : MethodName) prog_6_method_1_code (1 : Nat) (Option.none : Option ClassFile.FieldType)) ∈ BIG := big_in1 74 _ rfl rfl
theorem bw_75 : (Cond.methodLink "SweetWraps$Tin" (3 : Nat) ({ cls := "java/lang/Object", name := "<init>", desc := "()V" } : MethodName)) ∈ BIG := big_in1 75 _ rfl rfl
theorem bw_76 : (Cond.fieldLink "SweetWraps$Tin" (9 : Nat) "SweetWraps$Tin" "sweets" "[I") ∈ BIG := big_in1 76 _ rfl rfl
theorem bw_77 : (Cond.fieldLink "SweetWraps$Machine" (180 : Nat) "SweetWraps$Tin" "sweets" "[I") ∈ BIG := big_in1 77 _ rfl rfl
theorem bw_78 : (Cond.fieldLink "SweetWraps$Tin" (19 : Nat) "SweetWraps$Tin" "flavours" "I") ∈ BIG := big_in1 78 _ rfl rfl
theorem bw_79 : (Cond.fieldLink "SweetWraps$Machine" (174 : Nat) "SweetWraps$Tin" "flavours" "I") ∈ BIG := big_in1 79 _ rfl rfl
theorem bw_80 : (Cond.fieldLink "SweetWraps$Tin" (23 : Nat) "SweetWraps$Tin" "total" "I") ∈ BIG := big_in1 80 _ rfl rfl
theorem bw_81 : (Cond.fieldLink "SweetWraps$Machine" (85 : Nat) "SweetWraps$Tin" "total" "I") ∈ BIG := big_in1 81 _ rfl rfl
theorem bw_82 : (Cond.fieldLink "SweetWraps$Tin" (26 : Nat) "SweetWraps$Tin" "shipped" "Z") ∈ BIG := big_in1 82 _ rfl rfl
theorem bw_83 : (Cond.fieldLink "SweetWraps$Machine" (81 : Nat) "SweetWraps$Tin" "shipped" "Z") ∈ BIG := big_in1 83 _ rfl rfl
theorem bw_84 : (Cond.laysFinal "SweetWraps$Tin" "SweetWraps$Tin" "sweets" "[I") ∈ BIG := big_in1 84 _ rfl rfl
theorem bw_86 : (Cond.lays "SweetWraps$Tin" "SweetWraps$Tin" "flavours" "I") ∈ BIG := big_in1 86 _ rfl rfl
theorem bw_88 : (Cond.lays "SweetWraps$Tin" "SweetWraps$Tin" "total" "I") ∈ BIG := big_in1 88 _ rfl rfl
theorem bw_90 : (Cond.lays "SweetWraps$Tin" "SweetWraps$Tin" "shipped" "Z") ∈ BIG := big_in1 90 _ rfl rfl
theorem bw_93 : (Cond.fieldLink "SweetWraps$Machine" (9 : Nat) "SweetWraps$Machine" "settings" "[I") ∈ BIG := big_in1 93 _ rfl rfl
theorem bw_94 : (Cond.fieldLink "SweetWraps" (134 : Nat) "SweetWraps$Machine" "settings" "[I") ∈ BIG := big_in1 94 _ rfl rfl
theorem bw_95 : (Cond.fieldLink "SweetWraps$Machine" (17 : Nat) "SweetWraps$Machine" "lanes" "[LSweetWraps$Lane;") ∈ BIG := big_in1 95 _ rfl rfl
theorem bw_96 : (Cond.fieldLink "SweetWraps" (114 : Nat) "SweetWraps$Machine" "lanes" "[LSweetWraps$Lane;") ∈ BIG := big_in1 96 _ rfl rfl
theorem bw_97 : (Cond.fieldLink "SweetWraps$Machine" (23 : Nat) "SweetWraps$Machine" "tins" "[LSweetWraps$Tin;") ∈ BIG := big_in1 97 _ rfl rfl
theorem bw_98 : (Cond.fieldLink "SweetWraps$Machine" (27 : Nat) "SweetWraps$Machine" "apartFrom" "[I") ∈ BIG := big_in1 98 _ rfl rfl
theorem bw_99 : (Cond.fieldLink "SweetWraps$Machine" (43 : Nat) "SweetWraps$Machine" "tinCount" "I") ∈ BIG := big_in1 99 _ rfl rfl
theorem bw_100 : (Cond.fieldLink "SweetWraps" (178 : Nat) "SweetWraps$Machine" "tinCount" "I") ∈ BIG := big_in1 100 _ rfl rfl
theorem bw_101 : (Cond.fieldLink "SweetWraps$Machine" (47 : Nat) "SweetWraps$Machine" "ticks" "I") ∈ BIG := big_in1 101 _ rfl rfl
theorem bw_102 : (Cond.fieldLink "SweetWraps$Machine" (50 : Nat) "SweetWraps$Machine" "foilPulled" "I") ∈ BIG := big_in1 102 _ rfl rfl
theorem bw_103 : (Cond.fieldLink "SweetWraps$Machine" (53 : Nat) "SweetWraps$Machine" "foilWasted" "I") ∈ BIG := big_in1 103 _ rfl rfl
theorem bw_104 : (Cond.laysFinal "SweetWraps$Machine" "SweetWraps$Machine" "settings" "[I") ∈ BIG := big_in1 104 _ rfl rfl
theorem bw_106 : (Cond.laysFinal "SweetWraps$Machine" "SweetWraps$Machine" "lanes" "[LSweetWraps$Lane;") ∈ BIG := big_in1 106 _ rfl rfl
theorem bw_108 : (Cond.laysFinal "SweetWraps$Machine" "SweetWraps$Machine" "tins" "[LSweetWraps$Tin;") ∈ BIG := big_in1 108 _ rfl rfl
theorem bw_110 : (Cond.laysFinal "SweetWraps$Machine" "SweetWraps$Machine" "apartFrom" "[I") ∈ BIG := big_in1 110 _ rfl rfl
theorem bw_112 : (Cond.lays "SweetWraps$Machine" "SweetWraps$Machine" "tinCount" "I") ∈ BIG := big_in1 112 _ rfl rfl
theorem bw_114 : (Cond.lays "SweetWraps$Machine" "SweetWraps$Machine" "ticks" "I") ∈ BIG := big_in1 114 _ rfl rfl
theorem bw_116 : (Cond.lays "SweetWraps$Machine" "SweetWraps$Machine" "foilPulled" "I") ∈ BIG := big_in1 116 _ rfl rfl
theorem bw_118 : (Cond.lays "SweetWraps$Machine" "SweetWraps$Machine" "foilWasted" "I") ∈ BIG := big_in1 118 _ rfl rfl
theorem bw_121 : (Cond.classLink "SweetWraps" (19 : Nat) "SweetWraps$History") ∈ BIG := big_in1 121 _ rfl rfl
theorem bw_122 : (Cond.instantiable "SweetWraps$History" (3 : Nat)) ∈ BIG := big_in1 122 _ rfl rfl
theorem bw_123 : (Cond.methodLink "SweetWraps" (21 : Nat) ({ cls := "SweetWraps$History", name := "<init>", desc := "()V" } : MethodName)) ∈ BIG := big_in1 123 _ rfl rfl
theorem bw_124 : (Cond.instanceMethod ({ cls := "SweetWraps$History", name := "<init>", desc := "()V" } : MethodName)) ∈ BIG := big_in1 124 _ rfl rfl
theorem bw_125 : (Cond.code ({ cls := "SweetWraps$History", name := "<init>", desc := "()V" } : MethodName) prog_2_method_1_code (2 : Nat) (Option.none : Option ClassFile.FieldType)) ∈ BIG := big_in1 125 _ rfl rfl
theorem bw_126 : (Cond.methodLink "SweetWraps$History" (3 : Nat) ({ cls := "java/lang/Object", name := "<init>", desc := "()V" } : MethodName)) ∈ BIG := big_in1 126 _ rfl rfl
theorem bw_127 : (Cond.classLink "SweetWraps$History" (9 : Nat) "SweetWraps$Machine") ∈ BIG := big_in1 127 _ rfl rfl
theorem bw_129 : (Cond.methodLink "SweetWraps$History" (17 : Nat) ({ cls := "SweetWraps$Machine", name := "<init>", desc := "()V" } : MethodName)) ∈ BIG := big_in1 129 _ rfl rfl
theorem bw_130 : (Cond.fieldLink "SweetWraps$History" (11 : Nat) "SweetWraps$History" "states" "[LSweetWraps$Machine;") ∈ BIG := big_in1 130 _ rfl rfl
theorem bw_131 : (Cond.fieldLink "SweetWraps$History" (18 : Nat) "SweetWraps$History" "prepared" "LSweetWraps$Machine;") ∈ BIG := big_in1 131 _ rfl rfl
theorem bw_132 : (Cond.fieldLink "SweetWraps$History" (26 : Nat) "SweetWraps$History" "depth" "I") ∈ BIG := big_in1 132 _ rfl rfl
theorem bw_133 : (Cond.fieldLink "SweetWraps" (98 : Nat) "SweetWraps$History" "depth" "I") ∈ BIG := big_in1 133 _ rfl rfl
theorem bw_134 : (Cond.laysFinal "SweetWraps$History" "SweetWraps$History" "states" "[LSweetWraps$Machine;") ∈ BIG := big_in1 134 _ rfl rfl
theorem bw_136 : (Cond.lays "SweetWraps$History" "SweetWraps$History" "prepared" "LSweetWraps$Machine;") ∈ BIG := big_in1 136 _ rfl rfl
theorem bw_138 : (Cond.lays "SweetWraps$History" "SweetWraps$History" "depth" "I") ∈ BIG := big_in1 138 _ rfl rfl
theorem bw_141 : (Cond.classLink "SweetWraps" (34 : Nat) "SweetWraps$Pad") ∈ BIG := big_in1 141 _ rfl rfl
theorem bw_142 : (Cond.instantiable "SweetWraps$Pad" (6 : Nat)) ∈ BIG := big_in1 142 _ rfl rfl
theorem bw_144 : (Cond.instanceMethod ({ cls := "SweetWraps$Pad", name := "<init>", desc := "()V" } : MethodName)) ∈ BIG := big_in1 144 _ rfl rfl
theorem bw_145 : (Cond.code ({ cls := "SweetWraps$Pad", name := "<init>", desc := "()V" } : MethodName) prog_5_method_1_code (1 : Nat) (Option.none : Option ClassFile.FieldType)) ∈ BIG := big_in1 145 _ rfl rfl
theorem bw_146 : (Cond.methodLink "SweetWraps$Pad" (3 : Nat) ({ cls := "java/lang/Object", name := "<init>", desc := "()V" } : MethodName)) ∈ BIG := big_in1 146 _ rfl rfl
theorem bw_147 : (Cond.fieldLink "SweetWraps$Pad" (9 : Nat) "SweetWraps$Pad" "signs" "[C") ∈ BIG := big_in1 147 _ rfl rfl
theorem bw_148 : (Cond.fieldLink "SweetWraps$Pad" (15 : Nat) "SweetWraps$Pad" "values" "[I") ∈ BIG := big_in1 148 _ rfl rfl
theorem bw_149 : (Cond.fieldLink "SweetWraps" (171 : Nat) "SweetWraps$Pad" "values" "[I") ∈ BIG := big_in1 149 _ rfl rfl
theorem bw_150 : (Cond.fieldLink "SweetWraps$Pad" (23 : Nat) "SweetWraps$Pad" "length" "I") ∈ BIG := big_in1 150 _ rfl rfl
theorem bw_151 : (Cond.fieldLink "SweetWraps" (94 : Nat) "SweetWraps$Pad" "length" "I") ∈ BIG := big_in1 151 _ rfl rfl
theorem bw_152 : (Cond.fieldLink "SweetWraps$Pad" (44 : Nat) "SweetWraps$Pad" "place" "I") ∈ BIG := big_in1 152 _ rfl rfl
theorem bw_153 : (Cond.fieldLink "SweetWraps$Pad" (55 : Nat) "SweetWraps$Pad" "kind" "I") ∈ BIG := big_in1 153 _ rfl rfl
theorem bw_154 : (Cond.fieldLink "SweetWraps" (168 : Nat) "SweetWraps$Pad" "kind" "I") ∈ BIG := big_in1 154 _ rfl rfl
theorem bw_155 : (Cond.fieldLink "SweetWraps$Pad" (58 : Nat) "SweetWraps$Pad" "valueCount" "I") ∈ BIG := big_in1 155 _ rfl rfl
theorem bw_156 : (Cond.laysFinal "SweetWraps$Pad" "SweetWraps$Pad" "signs" "[C") ∈ BIG := big_in1 156 _ rfl rfl
theorem bw_158 : (Cond.laysFinal "SweetWraps$Pad" "SweetWraps$Pad" "values" "[I") ∈ BIG := big_in1 158 _ rfl rfl
theorem bw_160 : (Cond.lays "SweetWraps$Pad" "SweetWraps$Pad" "length" "I") ∈ BIG := big_in1 160 _ rfl rfl
theorem bw_162 : (Cond.lays "SweetWraps$Pad" "SweetWraps$Pad" "place" "I") ∈ BIG := big_in1 162 _ rfl rfl
theorem bw_164 : (Cond.lays "SweetWraps$Pad" "SweetWraps$Pad" "kind" "I") ∈ BIG := big_in1 164 _ rfl rfl
theorem bw_166 : (Cond.lays "SweetWraps$Pad" "SweetWraps$Pad" "valueCount" "I") ∈ BIG := big_in1 166 _ rfl rfl
theorem bw_169 : (Cond.arrayClass ClassFile.FieldType.boolean) ∈ BIG := big_in1 169 _ rfl rfl
theorem bw_170 : (Cond.arrayClass ClassFile.FieldType.char) ∈ BIG := big_in1 170 _ rfl rfl
theorem bw_171 : (Cond.fieldLink "SweetWraps" (10 : Nat) "SweetWraps" "now" "LSweetWraps$Machine;") ∈ BIG := big_in1 171 _ rfl rfl
theorem bw_172 : (Cond.fieldLink "SweetWraps" (16 : Nat) "SweetWraps" "trial" "LSweetWraps$Machine;") ∈ BIG := big_in1 172 _ rfl rfl
theorem bw_173 : (Cond.fieldLink "SweetWraps" (22 : Nat) "SweetWraps" "history" "LSweetWraps$History;") ∈ BIG := big_in1 173 _ rfl rfl
theorem bw_174 : (Cond.fieldLink "SweetWraps" (26 : Nat) "SweetWraps" "slots" "[LSweetWraps$Machine;") ∈ BIG := big_in1 174 _ rfl rfl
theorem bw_175 : (Cond.fieldLink "SweetWraps" (30 : Nat) "SweetWraps" "saved" "[Z") ∈ BIG := big_in1 175 _ rfl rfl
theorem bw_176 : (Cond.fieldLink "SweetWraps" (37 : Nat) "SweetWraps" "pad" "LSweetWraps$Pad;") ∈ BIG := big_in1 176 _ rfl rfl
theorem bw_177 : (Cond.laysFinal "SweetWraps" "SweetWraps" "now" "LSweetWraps$Machine;") ∈ BIG := big_in1 177 _ rfl rfl
theorem bw_179 : (Cond.laysFinal "SweetWraps" "SweetWraps" "trial" "LSweetWraps$Machine;") ∈ BIG := big_in1 179 _ rfl rfl
theorem bw_181 : (Cond.laysFinal "SweetWraps" "SweetWraps" "history" "LSweetWraps$History;") ∈ BIG := big_in1 181 _ rfl rfl
theorem bw_183 : (Cond.laysFinal "SweetWraps" "SweetWraps" "slots" "[LSweetWraps$Machine;") ∈ BIG := big_in1 183 _ rfl rfl
theorem bw_185 : (Cond.laysFinal "SweetWraps" "SweetWraps" "saved" "[Z") ∈ BIG := big_in1 185 _ rfl rfl
theorem bw_187 : (Cond.laysFinal "SweetWraps" "SweetWraps" "pad" "LSweetWraps$Pad;") ∈ BIG := big_in1 187 _ rfl rfl
theorem bw_190 : (Cond.methodLink "SweetWrapsLaw" (13 : Nat) ({ cls := "SweetWraps", name := "set", desc := "(II)I" } : MethodName)) ∈ BIG := big_in1 190 _ rfl rfl
theorem bw_191 : (Cond.instanceMethod ({ cls := "SweetWraps", name := "set", desc := "(II)I" } : MethodName)) ∈ BIG := big_in1 191 _ rfl rfl
theorem bw_192 : (Cond.selects "SweetWraps" ({ cls := "SweetWraps", name := "set", desc := "(II)I" } : MethodName) ({ cls := "SweetWraps", name := "set", desc := "(II)I" } : MethodName)) ∈ BIG := big_in1 192 _ rfl rfl
theorem bw_193 : (Cond.code ({ cls := "SweetWraps", name := "set", desc := "(II)I" } : MethodName) prog_1_method_2_code (3 : Nat) (Option.some ClassFile.FieldType.int)) ∈ BIG := big_in1 193 _ rfl rfl
theorem bw_194 : (Cond.methodLink "SweetWraps" (41 : Nat) ({ cls := "SweetWraps$History", name := "prepare", desc := "(LSweetWraps$Machine;)V" } : MethodName)) ∈ BIG := big_in1 194 _ rfl rfl
theorem bw_195 : (Cond.instanceMethod ({ cls := "SweetWraps$History", name := "prepare", desc := "(LSweetWraps$Machine;)V" } : MethodName)) ∈ BIG := big_in1 195 _ rfl rfl
theorem bw_196 : (Cond.selects "SweetWraps$History" ({ cls := "SweetWraps$History", name := "prepare", desc := "(LSweetWraps$Machine;)V" } : MethodName) ({ cls := "SweetWraps$History", name := "prepare", desc := "(LSweetWraps$Machine;)V" } : MethodName)) ∈ BIG := big_in1 196 _ rfl rfl
theorem bw_197 : (Cond.code ({ cls := "SweetWraps$History", name := "prepare", desc := "(LSweetWraps$Machine;)V" } : MethodName) prog_2_method_2_code (2 : Nat) (Option.none : Option ClassFile.FieldType)) ∈ BIG := big_in1 197 _ rfl rfl
theorem bw_198 : (Cond.methodLink "SweetWraps$History" (22 : Nat) ({ cls := "SweetWraps$Machine", name := "copyFrom", desc := "(LSweetWraps$Machine;)V" } : MethodName)) ∈ BIG := big_in1 198 _ rfl rfl
theorem bw_199 : (Cond.instanceMethod ({ cls := "SweetWraps$Machine", name := "copyFrom", desc := "(LSweetWraps$Machine;)V" } : MethodName)) ∈ BIG := big_in1 199 _ rfl rfl
theorem bw_200 : (Cond.selects "SweetWraps$Machine" ({ cls := "SweetWraps$Machine", name := "copyFrom", desc := "(LSweetWraps$Machine;)V" } : MethodName) ({ cls := "SweetWraps$Machine", name := "copyFrom", desc := "(LSweetWraps$Machine;)V" } : MethodName)) ∈ BIG := big_in1 200 _ rfl rfl
theorem bw_201 : (Cond.code ({ cls := "SweetWraps$Machine", name := "copyFrom", desc := "(LSweetWraps$Machine;)V" } : MethodName) prog_4_method_2_code (3 : Nat) (Option.none : Option ClassFile.FieldType)) ∈ BIG := big_in1 201 _ rfl rfl
theorem bw_203 : (Cond.static ({ cls := "SweetWraps", name := "copyNumbers", desc := "([I[I)V" } : MethodName)) ∈ BIG := big_in1 203 _ rfl rfl
theorem bw_204 : (Cond.code ({ cls := "SweetWraps", name := "copyNumbers", desc := "([I[I)V" } : MethodName) prog_1_method_31_code (2 : Nat) (Option.none : Option ClassFile.FieldType)) ∈ BIG := big_in1 204 _ rfl rfl
theorem bw_205 : (Cond.methodLink "SweetWraps" (181 : Nat) ({ cls := "java/lang/Math", name := "min", desc := "(II)I" } : MethodName)) ∈ BIG := big_in1 205 _ rfl rfl
theorem bw_206 : (Cond.static ({ cls := "java/lang/Math", name := "min", desc := "(II)I" } : MethodName)) ∈ BIG := big_in1 206 _ rfl rfl
theorem bw_207 : (Cond.code ({ cls := "java/lang/Math", name := "min", desc := "(II)I" } : MethodName) prog_9_method_69_code (2 : Nat) (Option.some ClassFile.FieldType.int)) ∈ BIG := big_in1 207 _ rfl rfl
theorem bw_208 : (Cond.methodLink "SweetWraps" (186 : Nat) ({ cls := "java/lang/System", name := "arraycopy", desc := "(Ljava/lang/Object;ILjava/lang/Object;II)V" } : MethodName)) ∈ BIG := big_in1 208 _ rfl rfl
theorem bw_209 : (Cond.static ({ cls := "java/lang/System", name := "arraycopy", desc := "(Ljava/lang/Object;ILjava/lang/Object;II)V" } : MethodName)) ∈ BIG := big_in1 209 _ rfl rfl
theorem bw_210 : (Cond.native ({ cls := "java/lang/System", name := "arraycopy", desc := "(Ljava/lang/Object;ILjava/lang/Object;II)V" } : MethodName)) ∈ BIG := big_in1 210 _ rfl rfl
theorem bw_211 : (Cond.methodLink "SweetWraps$Machine" (36 : Nat) ({ cls := "SweetWraps$Lane", name := "copyFrom", desc := "(LSweetWraps$Lane;)V" } : MethodName)) ∈ BIG := big_in1 211 _ rfl rfl
theorem bw_212 : (Cond.instanceMethod ({ cls := "SweetWraps$Lane", name := "copyFrom", desc := "(LSweetWraps$Lane;)V" } : MethodName)) ∈ BIG := big_in1 212 _ rfl rfl
theorem bw_213 : (Cond.selects "SweetWraps$Lane" ({ cls := "SweetWraps$Lane", name := "copyFrom", desc := "(LSweetWraps$Lane;)V" } : MethodName) ({ cls := "SweetWraps$Lane", name := "copyFrom", desc := "(LSweetWraps$Lane;)V" } : MethodName)) ∈ BIG := big_in1 213 _ rfl rfl
theorem bw_214 : (Cond.code ({ cls := "SweetWraps$Lane", name := "copyFrom", desc := "(LSweetWraps$Lane;)V" } : MethodName) prog_3_method_2_code (2 : Nat) (Option.none : Option ClassFile.FieldType)) ∈ BIG := big_in1 214 _ rfl rfl
theorem bw_216 : (Cond.methodLink "SweetWraps$Machine" (40 : Nat) ({ cls := "SweetWraps$Tin", name := "copyFrom", desc := "(LSweetWraps$Tin;)V" } : MethodName)) ∈ BIG := big_in1 216 _ rfl rfl
theorem bw_217 : (Cond.instanceMethod ({ cls := "SweetWraps$Tin", name := "copyFrom", desc := "(LSweetWraps$Tin;)V" } : MethodName)) ∈ BIG := big_in1 217 _ rfl rfl
theorem bw_218 : (Cond.selects "SweetWraps$Tin" ({ cls := "SweetWraps$Tin", name := "copyFrom", desc := "(LSweetWraps$Tin;)V" } : MethodName) ({ cls := "SweetWraps$Tin", name := "copyFrom", desc := "(LSweetWraps$Tin;)V" } : MethodName)) ∈ BIG := big_in1 218 _ rfl rfl
theorem bw_219 : (Cond.code ({ cls := "SweetWraps$Tin", name := "copyFrom", desc := "(LSweetWraps$Tin;)V" } : MethodName) prog_6_method_2_code (2 : Nat) (Option.none : Option ClassFile.FieldType)) ∈ BIG := big_in1 219 _ rfl rfl
theorem bw_221 : (Cond.methodLink "SweetWraps" (45 : Nat) ({ cls := "SweetWraps$Machine", name := "changeSetting", desc := "(II)I" } : MethodName)) ∈ BIG := big_in1 221 _ rfl rfl
theorem bw_222 : (Cond.instanceMethod ({ cls := "SweetWraps$Machine", name := "changeSetting", desc := "(II)I" } : MethodName)) ∈ BIG := big_in1 222 _ rfl rfl
theorem bw_223 : (Cond.selects "SweetWraps$Machine" ({ cls := "SweetWraps$Machine", name := "changeSetting", desc := "(II)I" } : MethodName) ({ cls := "SweetWraps$Machine", name := "changeSetting", desc := "(II)I" } : MethodName)) ∈ BIG := big_in1 223 _ rfl rfl
theorem bw_224 : (Cond.code ({ cls := "SweetWraps$Machine", name := "changeSetting", desc := "(II)I" } : MethodName) prog_4_method_3_code (4 : Nat) (Option.some ClassFile.FieldType.int)) ∈ BIG := big_in1 224 _ rfl rfl
theorem bw_226 : (Cond.static ({ cls := "SweetWraps", name := "isIndex", desc := "(II)Z" } : MethodName)) ∈ BIG := big_in1 226 _ rfl rfl
theorem bw_227 : (Cond.code ({ cls := "SweetWraps", name := "isIndex", desc := "(II)Z" } : MethodName) prog_1_method_29_code (2 : Nat) (Option.some ClassFile.FieldType.boolean)) ∈ BIG := big_in1 227 _ rfl rfl
theorem bw_233 : (Cond.static ({ cls := "SweetWraps", name := "isBetween", desc := "(III)Z" } : MethodName)) ∈ BIG := big_in1 233 _ rfl rfl
theorem bw_234 : (Cond.code ({ cls := "SweetWraps", name := "isBetween", desc := "(III)Z" } : MethodName) prog_1_method_30_code (3 : Nat) (Option.some ClassFile.FieldType.boolean)) ∈ BIG := big_in1 234 _ rfl rfl
theorem bw_235 : (Cond.methodLink "SweetWraps" (49 : Nat) ({ cls := "SweetWraps$History", name := "record", desc := "(I)I" } : MethodName)) ∈ BIG := big_in1 235 _ rfl rfl
theorem bw_236 : (Cond.instanceMethod ({ cls := "SweetWraps$History", name := "record", desc := "(I)I" } : MethodName)) ∈ BIG := big_in1 236 _ rfl rfl
theorem bw_237 : (Cond.selects "SweetWraps$History" ({ cls := "SweetWraps$History", name := "record", desc := "(I)I" } : MethodName) ({ cls := "SweetWraps$History", name := "record", desc := "(I)I" } : MethodName)) ∈ BIG := big_in1 237 _ rfl rfl
theorem bw_238 : (Cond.code ({ cls := "SweetWraps$History", name := "record", desc := "(I)I" } : MethodName) prog_2_method_3_code (3 : Nat) (Option.some ClassFile.FieldType.int)) ∈ BIG := big_in1 238 _ rfl rfl
theorem bw_239 : (Cond.methodLink "SweetWraps$History" (30 : Nat) ({ cls := "SweetWraps$History", name := "dropOldest", desc := "()V" } : MethodName)) ∈ BIG := big_in1 239 _ rfl rfl
theorem bw_241 : (Cond.instanceMethod ({ cls := "SweetWraps$History", name := "dropOldest", desc := "()V" } : MethodName)) ∈ BIG := big_in2 1 _ rfl rfl
theorem bw_242 : (Cond.code ({ cls := "SweetWraps$History", name := "dropOldest", desc := "()V" } : MethodName) prog_2_method_4_code (3 : Nat) (Option.none : Option ClassFile.FieldType)) ∈ BIG := big_in2 2 _ rfl rfl
theorem bw_244 : (Cond.methodLink "SweetWrapsLaw" (18 : Nat) ({ cls := "SweetWraps", name := "heap", desc := "(III)I" } : MethodName)) ∈ BIG := big_in2 4 _ rfl rfl
theorem bw_245 : (Cond.instanceMethod ({ cls := "SweetWraps", name := "heap", desc := "(III)I" } : MethodName)) ∈ BIG := big_in2 5 _ rfl rfl
theorem bw_246 : (Cond.selects "SweetWraps" ({ cls := "SweetWraps", name := "heap", desc := "(III)I" } : MethodName) ({ cls := "SweetWraps", name := "heap", desc := "(III)I" } : MethodName)) ∈ BIG := big_in2 6 _ rfl rfl
theorem bw_247 : (Cond.code ({ cls := "SweetWraps", name := "heap", desc := "(III)I" } : MethodName) prog_1_method_3_code (4 : Nat) (Option.some ClassFile.FieldType.int)) ∈ BIG := big_in2 7 _ rfl rfl
theorem bw_248 : (Cond.methodLink "SweetWraps" (53 : Nat) ({ cls := "SweetWraps$Machine", name := "addSweets", desc := "(III)I" } : MethodName)) ∈ BIG := big_in2 8 _ rfl rfl
theorem bw_249 : (Cond.instanceMethod ({ cls := "SweetWraps$Machine", name := "addSweets", desc := "(III)I" } : MethodName)) ∈ BIG := big_in2 9 _ rfl rfl
theorem bw_250 : (Cond.selects "SweetWraps$Machine" ({ cls := "SweetWraps$Machine", name := "addSweets", desc := "(III)I" } : MethodName) ({ cls := "SweetWraps$Machine", name := "addSweets", desc := "(III)I" } : MethodName)) ∈ BIG := big_in2 10 _ rfl rfl
theorem bw_251 : (Cond.code ({ cls := "SweetWraps$Machine", name := "addSweets", desc := "(III)I" } : MethodName) prog_4_method_4_code (4 : Nat) (Option.some ClassFile.FieldType.int)) ∈ BIG := big_in2 11 _ rfl rfl
theorem bw_252 : (Cond.methodLink "SweetWraps$Machine" (70 : Nat) ({ cls := "SweetWraps$Lane", name := "addSweets", desc := "(II)I" } : MethodName)) ∈ BIG := big_in2 12 _ rfl rfl
theorem bw_253 : (Cond.instanceMethod ({ cls := "SweetWraps$Lane", name := "addSweets", desc := "(II)I" } : MethodName)) ∈ BIG := big_in2 13 _ rfl rfl
theorem bw_254 : (Cond.selects "SweetWraps$Lane" ({ cls := "SweetWraps$Lane", name := "addSweets", desc := "(II)I" } : MethodName) ({ cls := "SweetWraps$Lane", name := "addSweets", desc := "(II)I" } : MethodName)) ∈ BIG := big_in2 14 _ rfl rfl
theorem bw_255 : (Cond.code ({ cls := "SweetWraps$Lane", name := "addSweets", desc := "(II)I" } : MethodName) prog_3_method_7_code (5 : Nat) (Option.some ClassFile.FieldType.int)) ∈ BIG := big_in2 15 _ rfl rfl
theorem bw_256 : (Cond.methodLink "SweetWraps$Lane" (42 : Nat) ({ cls := "SweetWraps$Lane", name := "isHeap", desc := "(I)Z" } : MethodName)) ∈ BIG := big_in2 16 _ rfl rfl
theorem bw_257 : (Cond.instanceMethod ({ cls := "SweetWraps$Lane", name := "isHeap", desc := "(I)Z" } : MethodName)) ∈ BIG := big_in2 17 _ rfl rfl
theorem bw_258 : (Cond.selects "SweetWraps$Lane" ({ cls := "SweetWraps$Lane", name := "isHeap", desc := "(I)Z" } : MethodName) ({ cls := "SweetWraps$Lane", name := "isHeap", desc := "(I)Z" } : MethodName)) ∈ BIG := big_in2 18 _ rfl rfl
theorem bw_259 : (Cond.code ({ cls := "SweetWraps$Lane", name := "isHeap", desc := "(I)Z" } : MethodName) prog_3_method_3_code (2 : Nat) (Option.some ClassFile.FieldType.boolean)) ∈ BIG := big_in2 19 _ rfl rfl
theorem bw_261 : (Cond.methodLink "SweetWraps$Lane" (46 : Nat) ({ cls := "SweetWraps$Lane", name := "sweetsInHopper", desc := "()I" } : MethodName)) ∈ BIG := big_in2 21 _ rfl rfl
theorem bw_262 : (Cond.instanceMethod ({ cls := "SweetWraps$Lane", name := "sweetsInHopper", desc := "()I" } : MethodName)) ∈ BIG := big_in2 22 _ rfl rfl
theorem bw_263 : (Cond.selects "SweetWraps$Lane" ({ cls := "SweetWraps$Lane", name := "sweetsInHopper", desc := "()I" } : MethodName) ({ cls := "SweetWraps$Lane", name := "sweetsInHopper", desc := "()I" } : MethodName)) ∈ BIG := big_in2 23 _ rfl rfl
theorem bw_264 : (Cond.code ({ cls := "SweetWraps$Lane", name := "sweetsInHopper", desc := "()I" } : MethodName) prog_3_method_5_code (3 : Nat) (Option.some ClassFile.FieldType.int)) ∈ BIG := big_in2 24 _ rfl rfl
theorem bw_265 : (Cond.methodLink "SweetWrapsLaw" (23 : Nat) ({ cls := "SweetWraps", name := "foil", desc := "(II)I" } : MethodName)) ∈ BIG := big_in2 25 _ rfl rfl
theorem bw_266 : (Cond.instanceMethod ({ cls := "SweetWraps", name := "foil", desc := "(II)I" } : MethodName)) ∈ BIG := big_in2 26 _ rfl rfl
theorem bw_267 : (Cond.selects "SweetWraps" ({ cls := "SweetWraps", name := "foil", desc := "(II)I" } : MethodName) ({ cls := "SweetWraps", name := "foil", desc := "(II)I" } : MethodName)) ∈ BIG := big_in2 27 _ rfl rfl
theorem bw_268 : (Cond.code ({ cls := "SweetWraps", name := "foil", desc := "(II)I" } : MethodName) prog_1_method_4_code (3 : Nat) (Option.some ClassFile.FieldType.int)) ∈ BIG := big_in2 28 _ rfl rfl
theorem bw_269 : (Cond.methodLink "SweetWraps" (57 : Nat) ({ cls := "SweetWraps$Machine", name := "addFoil", desc := "(II)I" } : MethodName)) ∈ BIG := big_in2 29 _ rfl rfl
theorem bw_270 : (Cond.instanceMethod ({ cls := "SweetWraps$Machine", name := "addFoil", desc := "(II)I" } : MethodName)) ∈ BIG := big_in2 30 _ rfl rfl
theorem bw_271 : (Cond.selects "SweetWraps$Machine" ({ cls := "SweetWraps$Machine", name := "addFoil", desc := "(II)I" } : MethodName) ({ cls := "SweetWraps$Machine", name := "addFoil", desc := "(II)I" } : MethodName)) ∈ BIG := big_in2 31 _ rfl rfl
theorem bw_272 : (Cond.code ({ cls := "SweetWraps$Machine", name := "addFoil", desc := "(II)I" } : MethodName) prog_4_method_5_code (3 : Nat) (Option.some ClassFile.FieldType.int)) ∈ BIG := big_in2 32 _ rfl rfl
theorem bw_273 : (Cond.methodLink "SweetWrapsLaw" (27 : Nat) ({ cls := "SweetWraps", name := "tin", desc := "()I" } : MethodName)) ∈ BIG := big_in2 33 _ rfl rfl
theorem bw_274 : (Cond.instanceMethod ({ cls := "SweetWraps", name := "tin", desc := "()I" } : MethodName)) ∈ BIG := big_in2 34 _ rfl rfl
theorem bw_275 : (Cond.selects "SweetWraps" ({ cls := "SweetWraps", name := "tin", desc := "()I" } : MethodName) ({ cls := "SweetWraps", name := "tin", desc := "()I" } : MethodName)) ∈ BIG := big_in2 35 _ rfl rfl
theorem bw_276 : (Cond.code ({ cls := "SweetWraps", name := "tin", desc := "()I" } : MethodName) prog_1_method_5_code (1 : Nat) (Option.some ClassFile.FieldType.int)) ∈ BIG := big_in2 36 _ rfl rfl
theorem bw_277 : (Cond.methodLink "SweetWraps" (60 : Nat) ({ cls := "SweetWraps$Machine", name := "addTin", desc := "()I" } : MethodName)) ∈ BIG := big_in2 37 _ rfl rfl
theorem bw_278 : (Cond.instanceMethod ({ cls := "SweetWraps$Machine", name := "addTin", desc := "()I" } : MethodName)) ∈ BIG := big_in2 38 _ rfl rfl
theorem bw_279 : (Cond.selects "SweetWraps$Machine" ({ cls := "SweetWraps$Machine", name := "addTin", desc := "()I" } : MethodName) ({ cls := "SweetWraps$Machine", name := "addTin", desc := "()I" } : MethodName)) ∈ BIG := big_in2 39 _ rfl rfl
theorem bw_280 : (Cond.code ({ cls := "SweetWraps$Machine", name := "addTin", desc := "()I" } : MethodName) prog_4_method_6_code (1 : Nat) (Option.some ClassFile.FieldType.int)) ∈ BIG := big_in2 40 _ rfl rfl
theorem bw_281 : (Cond.methodLink "SweetWrapsLaw" (32 : Nat) ({ cls := "SweetWraps", name := "ship", desc := "(I)I" } : MethodName)) ∈ BIG := big_in2 41 _ rfl rfl
theorem bw_282 : (Cond.instanceMethod ({ cls := "SweetWraps", name := "ship", desc := "(I)I" } : MethodName)) ∈ BIG := big_in2 42 _ rfl rfl
theorem bw_283 : (Cond.selects "SweetWraps" ({ cls := "SweetWraps", name := "ship", desc := "(I)I" } : MethodName) ({ cls := "SweetWraps", name := "ship", desc := "(I)I" } : MethodName)) ∈ BIG := big_in2 43 _ rfl rfl
theorem bw_284 : (Cond.code ({ cls := "SweetWraps", name := "ship", desc := "(I)I" } : MethodName) prog_1_method_6_code (2 : Nat) (Option.some ClassFile.FieldType.int)) ∈ BIG := big_in2 44 _ rfl rfl
theorem bw_285 : (Cond.methodLink "SweetWraps" (64 : Nat) ({ cls := "SweetWraps$Machine", name := "shipTin", desc := "(I)I" } : MethodName)) ∈ BIG := big_in2 45 _ rfl rfl
theorem bw_286 : (Cond.instanceMethod ({ cls := "SweetWraps$Machine", name := "shipTin", desc := "(I)I" } : MethodName)) ∈ BIG := big_in2 46 _ rfl rfl
theorem bw_287 : (Cond.selects "SweetWraps$Machine" ({ cls := "SweetWraps$Machine", name := "shipTin", desc := "(I)I" } : MethodName) ({ cls := "SweetWraps$Machine", name := "shipTin", desc := "(I)I" } : MethodName)) ∈ BIG := big_in2 47 _ rfl rfl
theorem bw_288 : (Cond.code ({ cls := "SweetWraps$Machine", name := "shipTin", desc := "(I)I" } : MethodName) prog_4_method_7_code (2 : Nat) (Option.some ClassFile.FieldType.int)) ∈ BIG := big_in2 48 _ rfl rfl
theorem bw_289 : (Cond.methodLink "SweetWraps$Machine" (77 : Nat) ({ cls := "SweetWraps$Machine", name := "isTin", desc := "(I)Z" } : MethodName)) ∈ BIG := big_in2 49 _ rfl rfl
theorem bw_291 : (Cond.instanceMethod ({ cls := "SweetWraps$Machine", name := "isTin", desc := "(I)Z" } : MethodName)) ∈ BIG := big_in2 51 _ rfl rfl
theorem bw_292 : (Cond.code ({ cls := "SweetWraps$Machine", name := "isTin", desc := "(I)Z" } : MethodName) prog_4_method_22_code (2 : Nat) (Option.some ClassFile.FieldType.boolean)) ∈ BIG := big_in2 52 _ rfl rfl
theorem bw_293 : (Cond.methodLink "SweetWrapsLaw" (37 : Nat) ({ cls := "SweetWraps", name := "apart", desc := "(II)I" } : MethodName)) ∈ BIG := big_in2 53 _ rfl rfl
theorem bw_294 : (Cond.instanceMethod ({ cls := "SweetWraps", name := "apart", desc := "(II)I" } : MethodName)) ∈ BIG := big_in2 54 _ rfl rfl
theorem bw_295 : (Cond.selects "SweetWraps" ({ cls := "SweetWraps", name := "apart", desc := "(II)I" } : MethodName) ({ cls := "SweetWraps", name := "apart", desc := "(II)I" } : MethodName)) ∈ BIG := big_in2 55 _ rfl rfl
theorem bw_296 : (Cond.code ({ cls := "SweetWraps", name := "apart", desc := "(II)I" } : MethodName) prog_1_method_7_code (3 : Nat) (Option.some ClassFile.FieldType.int)) ∈ BIG := big_in2 56 _ rfl rfl
theorem bw_297 : (Cond.methodLink "SweetWraps" (67 : Nat) ({ cls := "SweetWraps$Machine", name := "changeApart", desc := "(II)I" } : MethodName)) ∈ BIG := big_in2 57 _ rfl rfl
theorem bw_298 : (Cond.instanceMethod ({ cls := "SweetWraps$Machine", name := "changeApart", desc := "(II)I" } : MethodName)) ∈ BIG := big_in2 58 _ rfl rfl
theorem bw_299 : (Cond.selects "SweetWraps$Machine" ({ cls := "SweetWraps$Machine", name := "changeApart", desc := "(II)I" } : MethodName) ({ cls := "SweetWraps$Machine", name := "changeApart", desc := "(II)I" } : MethodName)) ∈ BIG := big_in2 59 _ rfl rfl
theorem bw_300 : (Cond.code ({ cls := "SweetWraps$Machine", name := "changeApart", desc := "(II)I" } : MethodName) prog_4_method_8_code (4 : Nat) (Option.some ClassFile.FieldType.int)) ∈ BIG := big_in2 60 _ rfl rfl
theorem bw_301 : (Cond.methodLink "SweetWraps$Machine" (88 : Nat) ({ cls := "SweetWraps$Machine", name := "isOpenTinWithBoth", desc := "(II)Z" } : MethodName)) ∈ BIG := big_in2 61 _ rfl rfl
theorem bw_303 : (Cond.instanceMethod ({ cls := "SweetWraps$Machine", name := "isOpenTinWithBoth", desc := "(II)Z" } : MethodName)) ∈ BIG := big_in2 63 _ rfl rfl
theorem bw_304 : (Cond.code ({ cls := "SweetWraps$Machine", name := "isOpenTinWithBoth", desc := "(II)Z" } : MethodName) prog_4_method_24_code (5 : Nat) (Option.some ClassFile.FieldType.boolean)) ∈ BIG := big_in2 64 _ rfl rfl
theorem bw_305 : (Cond.methodLink "SweetWraps$Machine" (171 : Nat) ({ cls := "SweetWraps$Machine", name := "isOpen", desc := "(I)Z" } : MethodName)) ∈ BIG := big_in2 65 _ rfl rfl
theorem bw_307 : (Cond.instanceMethod ({ cls := "SweetWraps$Machine", name := "isOpen", desc := "(I)Z" } : MethodName)) ∈ BIG := big_in2 67 _ rfl rfl
theorem bw_308 : (Cond.code ({ cls := "SweetWraps$Machine", name := "isOpen", desc := "(I)Z" } : MethodName) prog_4_method_23_code (2 : Nat) (Option.some ClassFile.FieldType.boolean)) ∈ BIG := big_in2 68 _ rfl rfl
theorem bw_309 : (Cond.methodLink "SweetWraps$Machine" (91 : Nat) ({ cls := "SweetWraps$Machine", name := "switchApart", desc := "(II)V" } : MethodName)) ∈ BIG := big_in2 69 _ rfl rfl
theorem bw_310 : (Cond.instanceMethod ({ cls := "SweetWraps$Machine", name := "switchApart", desc := "(II)V" } : MethodName)) ∈ BIG := big_in2 70 _ rfl rfl
theorem bw_311 : (Cond.selects "SweetWraps$Machine" ({ cls := "SweetWraps$Machine", name := "switchApart", desc := "(II)V" } : MethodName) ({ cls := "SweetWraps$Machine", name := "switchApart", desc := "(II)V" } : MethodName)) ∈ BIG := big_in2 71 _ rfl rfl
theorem bw_312 : (Cond.code ({ cls := "SweetWraps$Machine", name := "switchApart", desc := "(II)V" } : MethodName) prog_4_method_9_code (3 : Nat) (Option.none : Option ClassFile.FieldType)) ∈ BIG := big_in2 72 _ rfl rfl
theorem bw_313 : (Cond.methodLink "SweetWrapsLaw" (41 : Nat) ({ cls := "SweetWraps", name := "run", desc := "(I)I" } : MethodName)) ∈ BIG := big_in2 73 _ rfl rfl
theorem bw_314 : (Cond.instanceMethod ({ cls := "SweetWraps", name := "run", desc := "(I)I" } : MethodName)) ∈ BIG := big_in2 74 _ rfl rfl
theorem bw_315 : (Cond.selects "SweetWraps" ({ cls := "SweetWraps", name := "run", desc := "(I)I" } : MethodName) ({ cls := "SweetWraps", name := "run", desc := "(I)I" } : MethodName)) ∈ BIG := big_in2 75 _ rfl rfl
theorem bw_316 : (Cond.code ({ cls := "SweetWraps", name := "run", desc := "(I)I" } : MethodName) prog_1_method_8_code (2 : Nat) (Option.some ClassFile.FieldType.int)) ∈ BIG := big_in2 76 _ rfl rfl
theorem bw_317 : (Cond.methodLink "SweetWraps" (70 : Nat) ({ cls := "SweetWraps$Machine", name := "runTicks", desc := "(I)I" } : MethodName)) ∈ BIG := big_in2 77 _ rfl rfl
theorem bw_318 : (Cond.instanceMethod ({ cls := "SweetWraps$Machine", name := "runTicks", desc := "(I)I" } : MethodName)) ∈ BIG := big_in2 78 _ rfl rfl
theorem bw_319 : (Cond.selects "SweetWraps$Machine" ({ cls := "SweetWraps$Machine", name := "runTicks", desc := "(I)I" } : MethodName) ({ cls := "SweetWraps$Machine", name := "runTicks", desc := "(I)I" } : MethodName)) ∈ BIG := big_in2 79 _ rfl rfl
theorem bw_320 : (Cond.code ({ cls := "SweetWraps$Machine", name := "runTicks", desc := "(I)I" } : MethodName) prog_4_method_10_code (2 : Nat) (Option.some ClassFile.FieldType.int)) ∈ BIG := big_in2 80 _ rfl rfl
theorem bw_321 : (Cond.methodLink "SweetWraps$Machine" (95 : Nat) ({ cls := "SweetWraps$Machine", name := "work", desc := "(I)I" } : MethodName)) ∈ BIG := big_in2 81 _ rfl rfl
theorem bw_322 : (Cond.instanceMethod ({ cls := "SweetWraps$Machine", name := "work", desc := "(I)I" } : MethodName)) ∈ BIG := big_in2 82 _ rfl rfl
theorem bw_323 : (Cond.selects "SweetWraps$Machine" ({ cls := "SweetWraps$Machine", name := "work", desc := "(I)I" } : MethodName) ({ cls := "SweetWraps$Machine", name := "work", desc := "(I)I" } : MethodName)) ∈ BIG := big_in2 83 _ rfl rfl
theorem bw_324 : (Cond.code ({ cls := "SweetWraps$Machine", name := "work", desc := "(I)I" } : MethodName) prog_4_method_11_code (5 : Nat) (Option.some ClassFile.FieldType.int)) ∈ BIG := big_in2 84 _ rfl rfl
theorem bw_325 : (Cond.methodLink "SweetWraps$Machine" (99 : Nat) ({ cls := "SweetWraps$Machine", name := "workLane", desc := "(LSweetWraps$Lane;)I" } : MethodName)) ∈ BIG := big_in2 85 _ rfl rfl
theorem bw_327 : (Cond.instanceMethod ({ cls := "SweetWraps$Machine", name := "workLane", desc := "(LSweetWraps$Lane;)I" } : MethodName)) ∈ BIG := big_in2 87 _ rfl rfl
theorem bw_328 : (Cond.code ({ cls := "SweetWraps$Machine", name := "workLane", desc := "(LSweetWraps$Lane;)I" } : MethodName) prog_4_method_12_code (8 : Nat) (Option.some ClassFile.FieldType.int)) ∈ BIG := big_in2 88 _ rfl rfl
theorem bw_329 : (Cond.methodLink "SweetWraps$Machine" (103 : Nat) ({ cls := "SweetWraps$Machine", name := "foilOfPull", desc := "()I" } : MethodName)) ∈ BIG := big_in2 89 _ rfl rfl
theorem bw_331 : (Cond.instanceMethod ({ cls := "SweetWraps$Machine", name := "foilOfPull", desc := "()I" } : MethodName)) ∈ BIG := big_in2 91 _ rfl rfl
theorem bw_332 : (Cond.code ({ cls := "SweetWraps$Machine", name := "foilOfPull", desc := "()I" } : MethodName) prog_4_method_13_code (1 : Nat) (Option.some ClassFile.FieldType.int)) ∈ BIG := big_in2 92 _ rfl rfl
theorem bw_333 : (Cond.methodLink "SweetWraps$Machine" (107 : Nat) ({ cls := "SweetWraps$Machine", name := "pullsUntilTear", desc := "()I" } : MethodName)) ∈ BIG := big_in2 93 _ rfl rfl
theorem bw_335 : (Cond.instanceMethod ({ cls := "SweetWraps$Machine", name := "pullsUntilTear", desc := "()I" } : MethodName)) ∈ BIG := big_in2 95 _ rfl rfl
theorem bw_336 : (Cond.code ({ cls := "SweetWraps$Machine", name := "pullsUntilTear", desc := "()I" } : MethodName) prog_4_method_14_code (2 : Nat) (Option.some ClassFile.FieldType.int)) ∈ BIG := big_in2 96 _ rfl rfl
theorem bw_337 : (Cond.methodLink "SweetWraps$Machine" (133 : Nat) ({ cls := "java/lang/Math", name := "max", desc := "(II)I" } : MethodName)) ∈ BIG := big_in2 97 _ rfl rfl
theorem bw_338 : (Cond.static ({ cls := "java/lang/Math", name := "max", desc := "(II)I" } : MethodName)) ∈ BIG := big_in2 98 _ rfl rfl
theorem bw_339 : (Cond.code ({ cls := "java/lang/Math", name := "max", desc := "(II)I" } : MethodName) prog_9_method_65_code (2 : Nat) (Option.some ClassFile.FieldType.int)) ∈ BIG := big_in2 99 _ rfl rfl
theorem bw_340 : (Cond.methodLink "SweetWraps$Machine" (113 : Nat) ({ cls := "SweetWraps$Lane", name := "nextFlavour", desc := "()I" } : MethodName)) ∈ BIG := big_in2 100 _ rfl rfl
theorem bw_341 : (Cond.instanceMethod ({ cls := "SweetWraps$Lane", name := "nextFlavour", desc := "()I" } : MethodName)) ∈ BIG := big_in2 101 _ rfl rfl
theorem bw_342 : (Cond.selects "SweetWraps$Lane" ({ cls := "SweetWraps$Lane", name := "nextFlavour", desc := "()I" } : MethodName) ({ cls := "SweetWraps$Lane", name := "nextFlavour", desc := "()I" } : MethodName)) ∈ BIG := big_in2 102 _ rfl rfl
theorem bw_343 : (Cond.code ({ cls := "SweetWraps$Lane", name := "nextFlavour", desc := "()I" } : MethodName) prog_3_method_4_code (1 : Nat) (Option.some ClassFile.FieldType.int)) ∈ BIG := big_in2 103 _ rfl rfl
theorem bw_344 : (Cond.methodLink "SweetWraps$Machine" (116 : Nat) ({ cls := "SweetWraps$Machine", name := "tinFor", desc := "(I)I" } : MethodName)) ∈ BIG := big_in2 104 _ rfl rfl
theorem bw_346 : (Cond.instanceMethod ({ cls := "SweetWraps$Machine", name := "tinFor", desc := "(I)I" } : MethodName)) ∈ BIG := big_in2 106 _ rfl rfl
theorem bw_347 : (Cond.code ({ cls := "SweetWraps$Machine", name := "tinFor", desc := "(I)I" } : MethodName) prog_4_method_17_code (3 : Nat) (Option.some ClassFile.FieldType.int)) ∈ BIG := big_in2 107 _ rfl rfl
theorem bw_348 : (Cond.methodLink "SweetWraps$Machine" (141 : Nat) ({ cls := "SweetWraps$Tin", name := "hasRoomFor", desc := "(II)Z" } : MethodName)) ∈ BIG := big_in2 108 _ rfl rfl
theorem bw_349 : (Cond.instanceMethod ({ cls := "SweetWraps$Tin", name := "hasRoomFor", desc := "(II)Z" } : MethodName)) ∈ BIG := big_in2 109 _ rfl rfl
theorem bw_350 : (Cond.selects "SweetWraps$Tin" ({ cls := "SweetWraps$Tin", name := "hasRoomFor", desc := "(II)Z" } : MethodName) ({ cls := "SweetWraps$Tin", name := "hasRoomFor", desc := "(II)Z" } : MethodName)) ∈ BIG := big_in2 110 _ rfl rfl
theorem bw_351 : (Cond.code ({ cls := "SweetWraps$Tin", name := "hasRoomFor", desc := "(II)Z" } : MethodName) prog_6_method_3_code (3 : Nat) (Option.some ClassFile.FieldType.boolean)) ∈ BIG := big_in2 111 _ rfl rfl
theorem bw_352 : (Cond.methodLink "SweetWraps$Machine" (119 : Nat) ({ cls := "SweetWraps$Machine", name := "reasonOf", desc := "(LSweetWraps$Lane;I)I" } : MethodName)) ∈ BIG := big_in2 112 _ rfl rfl
theorem bw_354 : (Cond.instanceMethod ({ cls := "SweetWraps$Machine", name := "reasonOf", desc := "(LSweetWraps$Lane;I)I" } : MethodName)) ∈ BIG := big_in2 114 _ rfl rfl
theorem bw_355 : (Cond.code ({ cls := "SweetWraps$Machine", name := "reasonOf", desc := "(LSweetWraps$Lane;I)I" } : MethodName) prog_4_method_15_code (3 : Nat) (Option.some ClassFile.FieldType.int)) ∈ BIG := big_in2 115 _ rfl rfl
theorem bw_356 : (Cond.methodLink "SweetWraps$Machine" (123 : Nat) ({ cls := "SweetWraps$Lane", name := "pullTears", desc := "(II)Z" } : MethodName)) ∈ BIG := big_in2 116 _ rfl rfl
theorem bw_357 : (Cond.instanceMethod ({ cls := "SweetWraps$Lane", name := "pullTears", desc := "(II)Z" } : MethodName)) ∈ BIG := big_in2 117 _ rfl rfl
theorem bw_358 : (Cond.selects "SweetWraps$Lane" ({ cls := "SweetWraps$Lane", name := "pullTears", desc := "(II)Z" } : MethodName) ({ cls := "SweetWraps$Lane", name := "pullTears", desc := "(II)Z" } : MethodName)) ∈ BIG := big_in2 118 _ rfl rfl
theorem bw_359 : (Cond.code ({ cls := "SweetWraps$Lane", name := "pullTears", desc := "(II)Z" } : MethodName) prog_3_method_8_code (3 : Nat) (Option.some ClassFile.FieldType.boolean)) ∈ BIG := big_in2 119 _ rfl rfl
theorem bw_360 : (Cond.methodLink "SweetWraps$Machine" (126 : Nat) ({ cls := "SweetWraps$Tin", name := "add", desc := "(I)V" } : MethodName)) ∈ BIG := big_in2 120 _ rfl rfl
theorem bw_361 : (Cond.instanceMethod ({ cls := "SweetWraps$Tin", name := "add", desc := "(I)V" } : MethodName)) ∈ BIG := big_in2 121 _ rfl rfl
theorem bw_362 : (Cond.selects "SweetWraps$Tin" ({ cls := "SweetWraps$Tin", name := "add", desc := "(I)V" } : MethodName) ({ cls := "SweetWraps$Tin", name := "add", desc := "(I)V" } : MethodName)) ∈ BIG := big_in2 122 _ rfl rfl
theorem bw_363 : (Cond.code ({ cls := "SweetWraps$Tin", name := "add", desc := "(I)V" } : MethodName) prog_6_method_4_code (2 : Nat) (Option.none : Option ClassFile.FieldType)) ∈ BIG := big_in2 123 _ rfl rfl
theorem bw_365 : (Cond.methodLink "SweetWraps$Machine" (130 : Nat) ({ cls := "SweetWraps$Lane", name := "wrapNext", desc := "()V" } : MethodName)) ∈ BIG := big_in2 125 _ rfl rfl
theorem bw_366 : (Cond.instanceMethod ({ cls := "SweetWraps$Lane", name := "wrapNext", desc := "()V" } : MethodName)) ∈ BIG := big_in2 126 _ rfl rfl
theorem bw_367 : (Cond.selects "SweetWraps$Lane" ({ cls := "SweetWraps$Lane", name := "wrapNext", desc := "()V" } : MethodName) ({ cls := "SweetWraps$Lane", name := "wrapNext", desc := "()V" } : MethodName)) ∈ BIG := big_in2 127 _ rfl rfl
theorem bw_368 : (Cond.code ({ cls := "SweetWraps$Lane", name := "wrapNext", desc := "()V" } : MethodName) prog_3_method_9_code (2 : Nat) (Option.none : Option ClassFile.FieldType)) ∈ BIG := big_in2 128 _ rfl rfl
theorem bw_369 : (Cond.methodLink "SweetWrapsLaw" (45 : Nat) ({ cls := "SweetWraps", name := "of", desc := "(II)I" } : MethodName)) ∈ BIG := big_in2 129 _ rfl rfl
theorem bw_370 : (Cond.instanceMethod ({ cls := "SweetWraps", name := "of", desc := "(II)I" } : MethodName)) ∈ BIG := big_in2 130 _ rfl rfl
theorem bw_371 : (Cond.selects "SweetWraps" ({ cls := "SweetWraps", name := "of", desc := "(II)I" } : MethodName) ({ cls := "SweetWraps", name := "of", desc := "(II)I" } : MethodName)) ∈ BIG := big_in2 131 _ rfl rfl
theorem bw_372 : (Cond.code ({ cls := "SweetWraps", name := "of", desc := "(II)I" } : MethodName) prog_1_method_9_code (3 : Nat) (Option.some ClassFile.FieldType.int)) ∈ BIG := big_in2 132 _ rfl rfl
theorem bw_373 : (Cond.methodLink "SweetWraps" (73 : Nat) ({ cls := "SweetWraps$Machine", name := "laneFact", desc := "(II)I" } : MethodName)) ∈ BIG := big_in2 133 _ rfl rfl
theorem bw_374 : (Cond.instanceMethod ({ cls := "SweetWraps$Machine", name := "laneFact", desc := "(II)I" } : MethodName)) ∈ BIG := big_in2 134 _ rfl rfl
theorem bw_375 : (Cond.selects "SweetWraps$Machine" ({ cls := "SweetWraps$Machine", name := "laneFact", desc := "(II)I" } : MethodName) ({ cls := "SweetWraps$Machine", name := "laneFact", desc := "(II)I" } : MethodName)) ∈ BIG := big_in2 135 _ rfl rfl
theorem bw_376 : (Cond.code ({ cls := "SweetWraps$Machine", name := "laneFact", desc := "(II)I" } : MethodName) prog_4_method_18_code (4 : Nat) (Option.some ClassFile.FieldType.int)) ∈ BIG := big_in2 136 _ rfl rfl
theorem bw_377 : (Cond.methodLink "SweetWraps$Machine" (144 : Nat) ({ cls := "SweetWraps$Lane", name := "sweetsInHopper", desc := "()I" } : MethodName)) ∈ BIG := big_in2 137 _ rfl rfl
theorem bw_378 : (Cond.methodLink "SweetWraps$Machine" (156 : Nat) ({ cls := "SweetWraps$Machine", name := "reasonNow", desc := "(LSweetWraps$Lane;)I" } : MethodName)) ∈ BIG := big_in2 138 _ rfl rfl
theorem bw_380 : (Cond.instanceMethod ({ cls := "SweetWraps$Machine", name := "reasonNow", desc := "(LSweetWraps$Lane;)I" } : MethodName)) ∈ BIG := big_in2 140 _ rfl rfl
theorem bw_381 : (Cond.code ({ cls := "SweetWraps$Machine", name := "reasonNow", desc := "(LSweetWraps$Lane;)I" } : MethodName) prog_4_method_16_code (2 : Nat) (Option.some ClassFile.FieldType.int)) ∈ BIG := big_in2 141 _ rfl rfl
theorem bw_382 : (Cond.methodLink "SweetWrapsLaw" (49 : Nat) ({ cls := "SweetWraps", name := "ofHeap", desc := "(III)I" } : MethodName)) ∈ BIG := big_in2 142 _ rfl rfl
theorem bw_383 : (Cond.instanceMethod ({ cls := "SweetWraps", name := "ofHeap", desc := "(III)I" } : MethodName)) ∈ BIG := big_in2 143 _ rfl rfl
theorem bw_384 : (Cond.selects "SweetWraps" ({ cls := "SweetWraps", name := "ofHeap", desc := "(III)I" } : MethodName) ({ cls := "SweetWraps", name := "ofHeap", desc := "(III)I" } : MethodName)) ∈ BIG := big_in2 144 _ rfl rfl
theorem bw_385 : (Cond.code ({ cls := "SweetWraps", name := "ofHeap", desc := "(III)I" } : MethodName) prog_1_method_10_code (4 : Nat) (Option.some ClassFile.FieldType.int)) ∈ BIG := big_in2 145 _ rfl rfl
theorem bw_386 : (Cond.methodLink "SweetWraps" (76 : Nat) ({ cls := "SweetWraps$Machine", name := "heapFact", desc := "(III)I" } : MethodName)) ∈ BIG := big_in2 146 _ rfl rfl
theorem bw_387 : (Cond.instanceMethod ({ cls := "SweetWraps$Machine", name := "heapFact", desc := "(III)I" } : MethodName)) ∈ BIG := big_in2 147 _ rfl rfl
theorem bw_388 : (Cond.selects "SweetWraps$Machine" ({ cls := "SweetWraps$Machine", name := "heapFact", desc := "(III)I" } : MethodName) ({ cls := "SweetWraps$Machine", name := "heapFact", desc := "(III)I" } : MethodName)) ∈ BIG := big_in2 148 _ rfl rfl
theorem bw_389 : (Cond.code ({ cls := "SweetWraps$Machine", name := "heapFact", desc := "(III)I" } : MethodName) prog_4_method_19_code (4 : Nat) (Option.some ClassFile.FieldType.int)) ∈ BIG := big_in2 149 _ rfl rfl
theorem bw_390 : (Cond.methodLink "SweetWraps$Machine" (159 : Nat) ({ cls := "SweetWraps$Lane", name := "isHeap", desc := "(I)Z" } : MethodName)) ∈ BIG := big_in2 150 _ rfl rfl
theorem bw_391 : (Cond.methodLink "SweetWrapsLaw" (53 : Nat) ({ cls := "SweetWraps", name := "ofTin", desc := "(II)I" } : MethodName)) ∈ BIG := big_in2 151 _ rfl rfl
theorem bw_392 : (Cond.instanceMethod ({ cls := "SweetWraps", name := "ofTin", desc := "(II)I" } : MethodName)) ∈ BIG := big_in2 152 _ rfl rfl
theorem bw_393 : (Cond.selects "SweetWraps" ({ cls := "SweetWraps", name := "ofTin", desc := "(II)I" } : MethodName) ({ cls := "SweetWraps", name := "ofTin", desc := "(II)I" } : MethodName)) ∈ BIG := big_in2 153 _ rfl rfl
theorem bw_394 : (Cond.code ({ cls := "SweetWraps", name := "ofTin", desc := "(II)I" } : MethodName) prog_1_method_11_code (3 : Nat) (Option.some ClassFile.FieldType.int)) ∈ BIG := big_in2 154 _ rfl rfl
theorem bw_395 : (Cond.methodLink "SweetWraps" (79 : Nat) ({ cls := "SweetWraps$Machine", name := "tinFact", desc := "(II)I" } : MethodName)) ∈ BIG := big_in2 155 _ rfl rfl
theorem bw_396 : (Cond.instanceMethod ({ cls := "SweetWraps$Machine", name := "tinFact", desc := "(II)I" } : MethodName)) ∈ BIG := big_in2 156 _ rfl rfl
theorem bw_397 : (Cond.selects "SweetWraps$Machine" ({ cls := "SweetWraps$Machine", name := "tinFact", desc := "(II)I" } : MethodName) ({ cls := "SweetWraps$Machine", name := "tinFact", desc := "(II)I" } : MethodName)) ∈ BIG := big_in2 157 _ rfl rfl
theorem bw_398 : (Cond.code ({ cls := "SweetWraps$Machine", name := "tinFact", desc := "(II)I" } : MethodName) prog_4_method_25_code (3 : Nat) (Option.some ClassFile.FieldType.int)) ∈ BIG := big_in2 158 _ rfl rfl
theorem bw_399 : (Cond.methodLink "SweetWraps$Machine" (176 : Nat) ({ cls := "SweetWraps$Machine", name := "flavoursTakenBy", desc := "(LSweetWraps$Tin;)I" } : MethodName)) ∈ BIG := big_in2 159 _ rfl rfl
theorem bw_401 : (Cond.instanceMethod ({ cls := "SweetWraps$Machine", name := "flavoursTakenBy", desc := "(LSweetWraps$Tin;)I" } : MethodName)) ∈ BIG := big_in2 161 _ rfl rfl
theorem bw_402 : (Cond.code ({ cls := "SweetWraps$Machine", name := "flavoursTakenBy", desc := "(LSweetWraps$Tin;)I" } : MethodName) prog_4_method_26_code (4 : Nat) (Option.some ClassFile.FieldType.int)) ∈ BIG := big_in2 162 _ rfl rfl
theorem bw_403 : (Cond.methodLink "SweetWrapsLaw" (57 : Nat) ({ cls := "SweetWraps", name := "inTin", desc := "(II)I" } : MethodName)) ∈ BIG := big_in2 163 _ rfl rfl
theorem bw_404 : (Cond.instanceMethod ({ cls := "SweetWraps", name := "inTin", desc := "(II)I" } : MethodName)) ∈ BIG := big_in2 164 _ rfl rfl
theorem bw_405 : (Cond.selects "SweetWraps" ({ cls := "SweetWraps", name := "inTin", desc := "(II)I" } : MethodName) ({ cls := "SweetWraps", name := "inTin", desc := "(II)I" } : MethodName)) ∈ BIG := big_in2 165 _ rfl rfl
theorem bw_406 : (Cond.code ({ cls := "SweetWraps", name := "inTin", desc := "(II)I" } : MethodName) prog_1_method_12_code (3 : Nat) (Option.some ClassFile.FieldType.int)) ∈ BIG := big_in2 166 _ rfl rfl
theorem bw_407 : (Cond.methodLink "SweetWraps" (82 : Nat) ({ cls := "SweetWraps$Machine", name := "sweetsInTin", desc := "(II)I" } : MethodName)) ∈ BIG := big_in2 167 _ rfl rfl
theorem bw_408 : (Cond.instanceMethod ({ cls := "SweetWraps$Machine", name := "sweetsInTin", desc := "(II)I" } : MethodName)) ∈ BIG := big_in2 168 _ rfl rfl
theorem bw_409 : (Cond.selects "SweetWraps$Machine" ({ cls := "SweetWraps$Machine", name := "sweetsInTin", desc := "(II)I" } : MethodName) ({ cls := "SweetWraps$Machine", name := "sweetsInTin", desc := "(II)I" } : MethodName)) ∈ BIG := big_in2 169 _ rfl rfl
theorem bw_410 : (Cond.code ({ cls := "SweetWraps$Machine", name := "sweetsInTin", desc := "(II)I" } : MethodName) prog_4_method_27_code (3 : Nat) (Option.some ClassFile.FieldType.int)) ∈ BIG := big_in2 170 _ rfl rfl
theorem bw_411 : (Cond.methodLink "SweetWrapsLaw" (61 : Nat) ({ cls := "SweetWraps", name := "flavour", desc := "(II)I" } : MethodName)) ∈ BIG := big_in2 171 _ rfl rfl
theorem bw_412 : (Cond.instanceMethod ({ cls := "SweetWraps", name := "flavour", desc := "(II)I" } : MethodName)) ∈ BIG := big_in2 172 _ rfl rfl
theorem bw_413 : (Cond.selects "SweetWraps" ({ cls := "SweetWraps", name := "flavour", desc := "(II)I" } : MethodName) ({ cls := "SweetWraps", name := "flavour", desc := "(II)I" } : MethodName)) ∈ BIG := big_in2 173 _ rfl rfl
theorem bw_414 : (Cond.code ({ cls := "SweetWraps", name := "flavour", desc := "(II)I" } : MethodName) prog_1_method_13_code (3 : Nat) (Option.some ClassFile.FieldType.int)) ∈ BIG := big_in2 174 _ rfl rfl
theorem bw_415 : (Cond.methodLink "SweetWraps" (85 : Nat) ({ cls := "SweetWraps$Machine", name := "flavourFact", desc := "(II)I" } : MethodName)) ∈ BIG := big_in2 175 _ rfl rfl
theorem bw_416 : (Cond.instanceMethod ({ cls := "SweetWraps$Machine", name := "flavourFact", desc := "(II)I" } : MethodName)) ∈ BIG := big_in2 176 _ rfl rfl
theorem bw_417 : (Cond.selects "SweetWraps$Machine" ({ cls := "SweetWraps$Machine", name := "flavourFact", desc := "(II)I" } : MethodName) ({ cls := "SweetWraps$Machine", name := "flavourFact", desc := "(II)I" } : MethodName)) ∈ BIG := big_in2 177 _ rfl rfl
theorem bw_418 : (Cond.code ({ cls := "SweetWraps$Machine", name := "flavourFact", desc := "(II)I" } : MethodName) prog_4_method_32_code (3 : Nat) (Option.some ClassFile.FieldType.int)) ∈ BIG := big_in2 178 _ rfl rfl
theorem bw_419 : (Cond.methodLink "SweetWraps$Machine" (188 : Nat) ({ cls := "SweetWraps$Machine", name := "sweetsInHoppers", desc := "(I)I" } : MethodName)) ∈ BIG := big_in2 179 _ rfl rfl
theorem bw_421 : (Cond.instanceMethod ({ cls := "SweetWraps$Machine", name := "sweetsInHoppers", desc := "(I)I" } : MethodName)) ∈ BIG := big_in2 181 _ rfl rfl
theorem bw_422 : (Cond.code ({ cls := "SweetWraps$Machine", name := "sweetsInHoppers", desc := "(I)I" } : MethodName) prog_4_method_33_code (4 : Nat) (Option.some ClassFile.FieldType.int)) ∈ BIG := big_in2 182 _ rfl rfl
theorem bw_423 : (Cond.methodLink "SweetWraps$Machine" (191 : Nat) ({ cls := "SweetWraps$Lane", name := "sweetsOf", desc := "(I)I" } : MethodName)) ∈ BIG := big_in2 183 _ rfl rfl
theorem bw_424 : (Cond.instanceMethod ({ cls := "SweetWraps$Lane", name := "sweetsOf", desc := "(I)I" } : MethodName)) ∈ BIG := big_in2 184 _ rfl rfl
theorem bw_425 : (Cond.selects "SweetWraps$Lane" ({ cls := "SweetWraps$Lane", name := "sweetsOf", desc := "(I)I" } : MethodName) ({ cls := "SweetWraps$Lane", name := "sweetsOf", desc := "(I)I" } : MethodName)) ∈ BIG := big_in2 185 _ rfl rfl
theorem bw_426 : (Cond.code ({ cls := "SweetWraps$Lane", name := "sweetsOf", desc := "(I)I" } : MethodName) prog_3_method_6_code (4 : Nat) (Option.some ClassFile.FieldType.int)) ∈ BIG := big_in2 186 _ rfl rfl
theorem bw_427 : (Cond.methodLink "SweetWraps$Machine" (181 : Nat) ({ cls := "SweetWraps$Machine", name := "sweetsInTins", desc := "(IZ)I" } : MethodName)) ∈ BIG := big_in2 187 _ rfl rfl
theorem bw_429 : (Cond.instanceMethod ({ cls := "SweetWraps$Machine", name := "sweetsInTins", desc := "(IZ)I" } : MethodName)) ∈ BIG := big_in2 189 _ rfl rfl
theorem bw_430 : (Cond.code ({ cls := "SweetWraps$Machine", name := "sweetsInTins", desc := "(IZ)I" } : MethodName) prog_4_method_34_code (5 : Nat) (Option.some ClassFile.FieldType.int)) ∈ BIG := big_in2 190 _ rfl rfl
theorem bw_431 : (Cond.methodLink "SweetWrapsLaw" (65 : Nat) ({ cls := "SweetWraps", name := "byRoom", desc := "(I)I" } : MethodName)) ∈ BIG := big_in2 191 _ rfl rfl
theorem bw_432 : (Cond.instanceMethod ({ cls := "SweetWraps", name := "byRoom", desc := "(I)I" } : MethodName)) ∈ BIG := big_in2 192 _ rfl rfl
theorem bw_433 : (Cond.selects "SweetWraps" ({ cls := "SweetWraps", name := "byRoom", desc := "(I)I" } : MethodName) ({ cls := "SweetWraps", name := "byRoom", desc := "(I)I" } : MethodName)) ∈ BIG := big_in2 193 _ rfl rfl
theorem bw_434 : (Cond.code ({ cls := "SweetWraps", name := "byRoom", desc := "(I)I" } : MethodName) prog_1_method_14_code (2 : Nat) (Option.some ClassFile.FieldType.int)) ∈ BIG := big_in2 194 _ rfl rfl
theorem bw_435 : (Cond.methodLink "SweetWraps" (88 : Nat) ({ cls := "SweetWraps$Machine", name := "tinOfRank", desc := "(I)I" } : MethodName)) ∈ BIG := big_in2 195 _ rfl rfl
theorem bw_436 : (Cond.instanceMethod ({ cls := "SweetWraps$Machine", name := "tinOfRank", desc := "(I)I" } : MethodName)) ∈ BIG := big_in2 196 _ rfl rfl
theorem bw_437 : (Cond.selects "SweetWraps$Machine" ({ cls := "SweetWraps$Machine", name := "tinOfRank", desc := "(I)I" } : MethodName) ({ cls := "SweetWraps$Machine", name := "tinOfRank", desc := "(I)I" } : MethodName)) ∈ BIG := big_in2 197 _ rfl rfl
theorem bw_438 : (Cond.code ({ cls := "SweetWraps$Machine", name := "tinOfRank", desc := "(I)I" } : MethodName) prog_4_method_30_code (3 : Nat) (Option.some ClassFile.FieldType.int)) ∈ BIG := big_in2 198 _ rfl rfl
theorem bw_439 : (Cond.methodLink "SweetWraps$Machine" (185 : Nat) ({ cls := "SweetWraps$Machine", name := "openTinsAhead", desc := "(I)I" } : MethodName)) ∈ BIG := big_in2 199 _ rfl rfl
theorem bw_441 : (Cond.instanceMethod ({ cls := "SweetWraps$Machine", name := "openTinsAhead", desc := "(I)I" } : MethodName)) ∈ BIG := big_in2 201 _ rfl rfl
theorem bw_442 : (Cond.code ({ cls := "SweetWraps$Machine", name := "openTinsAhead", desc := "(I)I" } : MethodName) prog_4_method_31_code (5 : Nat) (Option.some ClassFile.FieldType.int)) ∈ BIG := big_in2 202 _ rfl rfl
theorem bw_443 : (Cond.methodLink "SweetWrapsLaw" (69 : Nat) ({ cls := "SweetWraps", name := "byCount", desc := "(I)I" } : MethodName)) ∈ BIG := big_in2 203 _ rfl rfl
theorem bw_444 : (Cond.instanceMethod ({ cls := "SweetWraps", name := "byCount", desc := "(I)I" } : MethodName)) ∈ BIG := big_in2 204 _ rfl rfl
theorem bw_445 : (Cond.selects "SweetWraps" ({ cls := "SweetWraps", name := "byCount", desc := "(I)I" } : MethodName) ({ cls := "SweetWraps", name := "byCount", desc := "(I)I" } : MethodName)) ∈ BIG := big_in2 205 _ rfl rfl
theorem bw_446 : (Cond.code ({ cls := "SweetWraps", name := "byCount", desc := "(I)I" } : MethodName) prog_1_method_15_code (2 : Nat) (Option.some ClassFile.FieldType.int)) ∈ BIG := big_in2 206 _ rfl rfl
theorem bw_447 : (Cond.methodLink "SweetWraps" (91 : Nat) ({ cls := "SweetWraps$Machine", name := "flavourOfRank", desc := "(I)I" } : MethodName)) ∈ BIG := big_in2 207 _ rfl rfl
theorem bw_448 : (Cond.instanceMethod ({ cls := "SweetWraps$Machine", name := "flavourOfRank", desc := "(I)I" } : MethodName)) ∈ BIG := big_in2 208 _ rfl rfl
theorem bw_449 : (Cond.selects "SweetWraps$Machine" ({ cls := "SweetWraps$Machine", name := "flavourOfRank", desc := "(I)I" } : MethodName) ({ cls := "SweetWraps$Machine", name := "flavourOfRank", desc := "(I)I" } : MethodName)) ∈ BIG := big_in2 209 _ rfl rfl
theorem bw_450 : (Cond.code ({ cls := "SweetWraps$Machine", name := "flavourOfRank", desc := "(I)I" } : MethodName) prog_4_method_36_code (3 : Nat) (Option.some ClassFile.FieldType.int)) ∈ BIG := big_in2 210 _ rfl rfl
theorem bw_451 : (Cond.methodLink "SweetWraps$Machine" (194 : Nat) ({ cls := "SweetWraps$Machine", name := "sweetsInAllTins", desc := "(I)I" } : MethodName)) ∈ BIG := big_in2 211 _ rfl rfl
theorem bw_453 : (Cond.instanceMethod ({ cls := "SweetWraps$Machine", name := "sweetsInAllTins", desc := "(I)I" } : MethodName)) ∈ BIG := big_in2 213 _ rfl rfl
theorem bw_454 : (Cond.code ({ cls := "SweetWraps$Machine", name := "sweetsInAllTins", desc := "(I)I" } : MethodName) prog_4_method_35_code (2 : Nat) (Option.some ClassFile.FieldType.int)) ∈ BIG := big_in2 214 _ rfl rfl
theorem bw_455 : (Cond.methodLink "SweetWraps$Machine" (197 : Nat) ({ cls := "SweetWraps$Machine", name := "flavoursAhead", desc := "(I)I" } : MethodName)) ∈ BIG := big_in2 215 _ rfl rfl
theorem bw_457 : (Cond.instanceMethod ({ cls := "SweetWraps$Machine", name := "flavoursAhead", desc := "(I)I" } : MethodName)) ∈ BIG := big_in2 217 _ rfl rfl
theorem bw_458 : (Cond.code ({ cls := "SweetWraps$Machine", name := "flavoursAhead", desc := "(I)I" } : MethodName) prog_4_method_37_code (6 : Nat) (Option.some ClassFile.FieldType.int)) ∈ BIG := big_in2 218 _ rfl rfl
theorem bw_459 : (Cond.methodLink "SweetWrapsLaw" (73 : Nat) ({ cls := "SweetWraps", name := "count", desc := "(I)I" } : MethodName)) ∈ BIG := big_in2 219 _ rfl rfl
theorem bw_460 : (Cond.instanceMethod ({ cls := "SweetWraps", name := "count", desc := "(I)I" } : MethodName)) ∈ BIG := big_in2 220 _ rfl rfl
theorem bw_461 : (Cond.selects "SweetWraps" ({ cls := "SweetWraps", name := "count", desc := "(I)I" } : MethodName) ({ cls := "SweetWraps", name := "count", desc := "(I)I" } : MethodName)) ∈ BIG := big_in2 221 _ rfl rfl
theorem bw_462 : (Cond.code ({ cls := "SweetWraps", name := "count", desc := "(I)I" } : MethodName) prog_1_method_16_code (2 : Nat) (Option.some ClassFile.FieldType.int)) ∈ BIG := big_in2 222 _ rfl rfl
theorem bw_463 : (Cond.methodLink "SweetWraps" (101 : Nat) ({ cls := "SweetWraps$Machine", name := "number", desc := "(I)I" } : MethodName)) ∈ BIG := big_in2 223 _ rfl rfl
theorem bw_464 : (Cond.instanceMethod ({ cls := "SweetWraps$Machine", name := "number", desc := "(I)I" } : MethodName)) ∈ BIG := big_in2 224 _ rfl rfl
theorem bw_465 : (Cond.selects "SweetWraps$Machine" ({ cls := "SweetWraps$Machine", name := "number", desc := "(I)I" } : MethodName) ({ cls := "SweetWraps$Machine", name := "number", desc := "(I)I" } : MethodName)) ∈ BIG := big_in2 225 _ rfl rfl
theorem bw_466 : (Cond.code ({ cls := "SweetWraps$Machine", name := "number", desc := "(I)I" } : MethodName) prog_4_method_39_code (2 : Nat) (Option.some ClassFile.FieldType.int)) ∈ BIG := big_in2 226 _ rfl rfl
theorem bw_467 : (Cond.methodLink "SweetWraps$Machine" (200 : Nat) ({ cls := "SweetWraps$Machine", name := "tinsThatAre", desc := "(Z)I" } : MethodName)) ∈ BIG := big_in2 227 _ rfl rfl
theorem bw_469 : (Cond.instanceMethod ({ cls := "SweetWraps$Machine", name := "tinsThatAre", desc := "(Z)I" } : MethodName)) ∈ BIG := big_in2 229 _ rfl rfl
theorem bw_470 : (Cond.code ({ cls := "SweetWraps$Machine", name := "tinsThatAre", desc := "(Z)I" } : MethodName) prog_4_method_28_code (4 : Nat) (Option.some ClassFile.FieldType.int)) ∈ BIG := big_in2 230 _ rfl rfl
theorem bw_471 : (Cond.methodLink "SweetWraps$Machine" (204 : Nat) ({ cls := "SweetWraps$Machine", name := "overLanes", desc := "(I)I" } : MethodName)) ∈ BIG := big_in2 231 _ rfl rfl
theorem bw_473 : (Cond.instanceMethod ({ cls := "SweetWraps$Machine", name := "overLanes", desc := "(I)I" } : MethodName)) ∈ BIG := big_in2 233 _ rfl rfl
theorem bw_474 : (Cond.code ({ cls := "SweetWraps$Machine", name := "overLanes", desc := "(I)I" } : MethodName) prog_4_method_20_code (4 : Nat) (Option.some ClassFile.FieldType.int)) ∈ BIG := big_in2 234 _ rfl rfl
theorem bw_475 : (Cond.methodLink "SweetWraps$Machine" (168 : Nat) ({ cls := "SweetWraps$Machine", name := "laneFact", desc := "(II)I" } : MethodName)) ∈ BIG := big_in2 235 _ rfl rfl
theorem bw_476 : (Cond.methodLink "SweetWraps$Machine" (207 : Nat) ({ cls := "SweetWraps$Machine", name := "sweetsShipped", desc := "()I" } : MethodName)) ∈ BIG := big_in2 236 _ rfl rfl
theorem bw_478 : (Cond.instanceMethod ({ cls := "SweetWraps$Machine", name := "sweetsShipped", desc := "()I" } : MethodName)) ∈ BIG := big_in2 238 _ rfl rfl
theorem bw_479 : (Cond.code ({ cls := "SweetWraps$Machine", name := "sweetsShipped", desc := "()I" } : MethodName) prog_4_method_29_code (3 : Nat) (Option.some ClassFile.FieldType.int)) ∈ BIG := big_in2 239 _ rfl rfl
theorem bw_480 : (Cond.methodLink "SweetWraps$Machine" (210 : Nat) ({ cls := "SweetWraps$Machine", name := "standingLanes", desc := "()I" } : MethodName)) ∈ BIG := big_in3 0 _ rfl rfl
theorem bw_482 : (Cond.instanceMethod ({ cls := "SweetWraps$Machine", name := "standingLanes", desc := "()I" } : MethodName)) ∈ BIG := big_in3 2 _ rfl rfl
theorem bw_483 : (Cond.code ({ cls := "SweetWraps$Machine", name := "standingLanes", desc := "()I" } : MethodName) prog_4_method_21_code (3 : Nat) (Option.some ClassFile.FieldType.int)) ∈ BIG := big_in3 3 _ rfl rfl
theorem bw_484 : (Cond.methodLink "SweetWrapsLaw" (77 : Nat) ({ cls := "SweetWraps", name := "stands", desc := "(II)I" } : MethodName)) ∈ BIG := big_in3 4 _ rfl rfl
theorem bw_485 : (Cond.instanceMethod ({ cls := "SweetWraps", name := "stands", desc := "(II)I" } : MethodName)) ∈ BIG := big_in3 5 _ rfl rfl
theorem bw_486 : (Cond.selects "SweetWraps" ({ cls := "SweetWraps", name := "stands", desc := "(II)I" } : MethodName) ({ cls := "SweetWraps", name := "stands", desc := "(II)I" } : MethodName)) ∈ BIG := big_in3 6 _ rfl rfl
theorem bw_487 : (Cond.code ({ cls := "SweetWraps", name := "stands", desc := "(II)I" } : MethodName) prog_1_method_17_code (5 : Nat) (Option.some ClassFile.FieldType.int)) ∈ BIG := big_in3 7 _ rfl rfl
theorem bw_488 : (Cond.methodLink "SweetWraps" (104 : Nat) ({ cls := "SweetWraps", name := "isIndex", desc := "(II)Z" } : MethodName)) ∈ BIG := big_in3 8 _ rfl rfl
theorem bw_489 : (Cond.methodLink "SweetWraps" (108 : Nat) ({ cls := "SweetWraps$Machine", name := "copyFrom", desc := "(LSweetWraps$Machine;)V" } : MethodName)) ∈ BIG := big_in3 9 _ rfl rfl
theorem bw_490 : (Cond.methodLink "SweetWraps" (111 : Nat) ({ cls := "SweetWraps$Machine", name := "work", desc := "(I)I" } : MethodName)) ∈ BIG := big_in3 10 _ rfl rfl
theorem bw_491 : (Cond.methodLink "SweetWrapsLaw" (81 : Nat) ({ cls := "SweetWraps", name := "bestSpeed", desc := "(II)I" } : MethodName)) ∈ BIG := big_in3 11 _ rfl rfl
theorem bw_492 : (Cond.instanceMethod ({ cls := "SweetWraps", name := "bestSpeed", desc := "(II)I" } : MethodName)) ∈ BIG := big_in3 12 _ rfl rfl
theorem bw_493 : (Cond.selects "SweetWraps" ({ cls := "SweetWraps", name := "bestSpeed", desc := "(II)I" } : MethodName) ({ cls := "SweetWraps", name := "bestSpeed", desc := "(II)I" } : MethodName)) ∈ BIG := big_in3 13 _ rfl rfl
theorem bw_494 : (Cond.code ({ cls := "SweetWraps", name := "bestSpeed", desc := "(II)I" } : MethodName) prog_1_method_18_code (7 : Nat) (Option.some ClassFile.FieldType.int)) ∈ BIG := big_in3 14 _ rfl rfl
theorem bw_495 : (Cond.methodLink "SweetWraps" (123 : Nat) ({ cls := "SweetWraps", name := "isBetween", desc := "(III)Z" } : MethodName)) ∈ BIG := big_in3 15 _ rfl rfl
theorem bw_496 : (Cond.fieldLink "SweetWraps" (127 : Nat) "SweetWraps" "LEAST_OF_SETTING" "[I") ∈ BIG := big_in3 16 _ rfl rfl
theorem bw_497 : (Cond.fieldLink "SweetWraps" (131 : Nat) "SweetWraps" "MOST_OF_SETTING" "[I") ∈ BIG := big_in3 17 _ rfl rfl
theorem bw_498 : (Cond.methodLink "SweetWrapsLaw" (85 : Nat) ({ cls := "SweetWraps", name := "ifApart", desc := "(III)I" } : MethodName)) ∈ BIG := big_in3 18 _ rfl rfl
theorem bw_499 : (Cond.instanceMethod ({ cls := "SweetWraps", name := "ifApart", desc := "(III)I" } : MethodName)) ∈ BIG := big_in3 19 _ rfl rfl
theorem bw_500 : (Cond.selects "SweetWraps" ({ cls := "SweetWraps", name := "ifApart", desc := "(III)I" } : MethodName) ({ cls := "SweetWraps", name := "ifApart", desc := "(III)I" } : MethodName)) ∈ BIG := big_in3 20 _ rfl rfl
theorem bw_501 : (Cond.code ({ cls := "SweetWraps", name := "ifApart", desc := "(III)I" } : MethodName) prog_1_method_19_code (4 : Nat) (Option.some ClassFile.FieldType.int)) ∈ BIG := big_in3 21 _ rfl rfl
theorem bw_502 : (Cond.methodLink "SweetWraps" (137 : Nat) ({ cls := "SweetWraps$Machine", name := "switchApart", desc := "(II)V" } : MethodName)) ∈ BIG := big_in3 22 _ rfl rfl
theorem bw_503 : (Cond.methodLink "SweetWrapsLaw" (89 : Nat) ({ cls := "SweetWraps", name := "tinsFor", desc := "()I" } : MethodName)) ∈ BIG := big_in3 23 _ rfl rfl
theorem bw_504 : (Cond.instanceMethod ({ cls := "SweetWraps", name := "tinsFor", desc := "()I" } : MethodName)) ∈ BIG := big_in3 24 _ rfl rfl
theorem bw_505 : (Cond.selects "SweetWraps" ({ cls := "SweetWraps", name := "tinsFor", desc := "()I" } : MethodName) ({ cls := "SweetWraps", name := "tinsFor", desc := "()I" } : MethodName)) ∈ BIG := big_in3 25 _ rfl rfl
theorem bw_506 : (Cond.code ({ cls := "SweetWraps", name := "tinsFor", desc := "()I" } : MethodName) prog_1_method_20_code (1 : Nat) (Option.some ClassFile.FieldType.int)) ∈ BIG := big_in3 26 _ rfl rfl
theorem bw_507 : (Cond.methodLink "SweetWraps" (141 : Nat) ({ cls := "SweetWraps$Machine", name := "tinsForHoppers", desc := "()I" } : MethodName)) ∈ BIG := big_in3 27 _ rfl rfl
theorem bw_508 : (Cond.instanceMethod ({ cls := "SweetWraps$Machine", name := "tinsForHoppers", desc := "()I" } : MethodName)) ∈ BIG := big_in3 28 _ rfl rfl
theorem bw_509 : (Cond.selects "SweetWraps$Machine" ({ cls := "SweetWraps$Machine", name := "tinsForHoppers", desc := "()I" } : MethodName) ({ cls := "SweetWraps$Machine", name := "tinsForHoppers", desc := "()I" } : MethodName)) ∈ BIG := big_in3 29 _ rfl rfl
theorem bw_510 : (Cond.code ({ cls := "SweetWraps$Machine", name := "tinsForHoppers", desc := "()I" } : MethodName) prog_4_method_38_code (4 : Nat) (Option.some ClassFile.FieldType.int)) ∈ BIG := big_in3 30 _ rfl rfl
theorem bw_511 : (Cond.methodLink "SweetWrapsLaw" (95 : Nat) ({ cls := "SweetWraps", name := "put", desc := "(J)I" } : MethodName)) ∈ BIG := big_in3 31 _ rfl rfl
theorem bw_512 : (Cond.instanceMethod ({ cls := "SweetWraps", name := "put", desc := "(J)I" } : MethodName)) ∈ BIG := big_in3 32 _ rfl rfl
theorem bw_513 : (Cond.selects "SweetWraps" ({ cls := "SweetWraps", name := "put", desc := "(J)I" } : MethodName) ({ cls := "SweetWraps", name := "put", desc := "(J)I" } : MethodName)) ∈ BIG := big_in3 33 _ rfl rfl
theorem bw_514 : (Cond.code ({ cls := "SweetWraps", name := "put", desc := "(J)I" } : MethodName) prog_1_method_21_code (3 : Nat) (Option.some ClassFile.FieldType.int)) ∈ BIG := big_in3 34 _ rfl rfl
theorem bw_515 : (Cond.methodLink "SweetWraps" (144 : Nat) ({ cls := "SweetWraps$Pad", name := "append", desc := "(J)I" } : MethodName)) ∈ BIG := big_in3 35 _ rfl rfl
theorem bw_516 : (Cond.instanceMethod ({ cls := "SweetWraps$Pad", name := "append", desc := "(J)I" } : MethodName)) ∈ BIG := big_in3 36 _ rfl rfl
theorem bw_517 : (Cond.selects "SweetWraps$Pad" ({ cls := "SweetWraps$Pad", name := "append", desc := "(J)I" } : MethodName) ({ cls := "SweetWraps$Pad", name := "append", desc := "(J)I" } : MethodName)) ∈ BIG := big_in3 37 _ rfl rfl
theorem bw_518 : (Cond.code ({ cls := "SweetWraps$Pad", name := "append", desc := "(J)I" } : MethodName) prog_5_method_2_code (7 : Nat) (Option.some ClassFile.FieldType.int)) ∈ BIG := big_in3 38 _ rfl rfl
theorem bw_519 : (Cond.methodLink "SweetWraps$Pad" (19 : Nat) ({ cls := "SweetWraps$Pad", name := "charactersIn", desc := "(J)I" } : MethodName)) ∈ BIG := big_in3 39 _ rfl rfl
theorem bw_520 : (Cond.static ({ cls := "SweetWraps$Pad", name := "charactersIn", desc := "(J)I" } : MethodName)) ∈ BIG := big_in3 40 _ rfl rfl
theorem bw_521 : (Cond.code ({ cls := "SweetWraps$Pad", name := "charactersIn", desc := "(J)I" } : MethodName) prog_5_method_3_code (5 : Nat) (Option.some ClassFile.FieldType.int)) ∈ BIG := big_in3 41 _ rfl rfl
theorem bw_522 : (Cond.constantLong "SweetWraps$Pad" (31 : Nat) (255 : Int64)) ∈ BIG := big_in3 42 _ rfl rfl
theorem bw_525 : (Cond.methodLink "SweetWrapsLaw" (100 : Nat) ({ cls := "SweetWraps", name := "wipe", desc := "()I" } : MethodName)) ∈ BIG := big_in3 45 _ rfl rfl
theorem bw_526 : (Cond.instanceMethod ({ cls := "SweetWraps", name := "wipe", desc := "()I" } : MethodName)) ∈ BIG := big_in3 46 _ rfl rfl
theorem bw_527 : (Cond.selects "SweetWraps" ({ cls := "SweetWraps", name := "wipe", desc := "()I" } : MethodName) ({ cls := "SweetWraps", name := "wipe", desc := "()I" } : MethodName)) ∈ BIG := big_in3 47 _ rfl rfl
theorem bw_528 : (Cond.code ({ cls := "SweetWraps", name := "wipe", desc := "()I" } : MethodName) prog_1_method_22_code (1 : Nat) (Option.some ClassFile.FieldType.int)) ∈ BIG := big_in3 48 _ rfl rfl
theorem bw_529 : (Cond.methodLink "SweetWraps" (148 : Nat) ({ cls := "SweetWraps$Pad", name := "clear", desc := "()I" } : MethodName)) ∈ BIG := big_in3 49 _ rfl rfl
theorem bw_530 : (Cond.instanceMethod ({ cls := "SweetWraps$Pad", name := "clear", desc := "()I" } : MethodName)) ∈ BIG := big_in3 50 _ rfl rfl
theorem bw_531 : (Cond.selects "SweetWraps$Pad" ({ cls := "SweetWraps$Pad", name := "clear", desc := "()I" } : MethodName) ({ cls := "SweetWraps$Pad", name := "clear", desc := "()I" } : MethodName)) ∈ BIG := big_in3 51 _ rfl rfl
theorem bw_532 : (Cond.code ({ cls := "SweetWraps$Pad", name := "clear", desc := "()I" } : MethodName) prog_5_method_4_code (2 : Nat) (Option.some ClassFile.FieldType.int)) ∈ BIG := big_in3 52 _ rfl rfl
theorem bw_533 : (Cond.methodLink "SweetWrapsLaw" (104 : Nat) ({ cls := "SweetWraps", name := "fault", desc := "()I" } : MethodName)) ∈ BIG := big_in3 53 _ rfl rfl
theorem bw_534 : (Cond.instanceMethod ({ cls := "SweetWraps", name := "fault", desc := "()I" } : MethodName)) ∈ BIG := big_in3 54 _ rfl rfl
theorem bw_535 : (Cond.selects "SweetWraps" ({ cls := "SweetWraps", name := "fault", desc := "()I" } : MethodName) ({ cls := "SweetWraps", name := "fault", desc := "()I" } : MethodName)) ∈ BIG := big_in3 55 _ rfl rfl
theorem bw_536 : (Cond.code ({ cls := "SweetWraps", name := "fault", desc := "()I" } : MethodName) prog_1_method_23_code (1 : Nat) (Option.some ClassFile.FieldType.int)) ∈ BIG := big_in3 56 _ rfl rfl
theorem bw_537 : (Cond.methodLink "SweetWraps" (151 : Nat) ({ cls := "SweetWraps$Pad", name := "findFault", desc := "()I" } : MethodName)) ∈ BIG := big_in3 57 _ rfl rfl
theorem bw_538 : (Cond.instanceMethod ({ cls := "SweetWraps$Pad", name := "findFault", desc := "()I" } : MethodName)) ∈ BIG := big_in3 58 _ rfl rfl
theorem bw_539 : (Cond.selects "SweetWraps$Pad" ({ cls := "SweetWraps$Pad", name := "findFault", desc := "()I" } : MethodName) ({ cls := "SweetWraps$Pad", name := "findFault", desc := "()I" } : MethodName)) ∈ BIG := big_in3 59 _ rfl rfl
theorem bw_540 : (Cond.code ({ cls := "SweetWraps$Pad", name := "findFault", desc := "()I" } : MethodName) prog_5_method_5_code (2 : Nat) (Option.some ClassFile.FieldType.int)) ∈ BIG := big_in3 60 _ rfl rfl
theorem bw_541 : (Cond.methodLink "SweetWraps$Pad" (37 : Nat) ({ cls := "SweetWraps$Pad", name := "startReading", desc := "()V" } : MethodName)) ∈ BIG := big_in3 61 _ rfl rfl
theorem bw_542 : (Cond.instanceMethod ({ cls := "SweetWraps$Pad", name := "startReading", desc := "()V" } : MethodName)) ∈ BIG := big_in3 62 _ rfl rfl
theorem bw_543 : (Cond.selects "SweetWraps$Pad" ({ cls := "SweetWraps$Pad", name := "startReading", desc := "()V" } : MethodName) ({ cls := "SweetWraps$Pad", name := "startReading", desc := "()V" } : MethodName)) ∈ BIG := big_in3 63 _ rfl rfl
theorem bw_544 : (Cond.code ({ cls := "SweetWraps$Pad", name := "startReading", desc := "()V" } : MethodName) prog_5_method_6_code (1 : Nat) (Option.none : Option ClassFile.FieldType)) ∈ BIG := big_in3 64 _ rfl rfl
theorem bw_545 : (Cond.methodLink "SweetWraps$Pad" (40 : Nat) ({ cls := "SweetWraps$Pad", name := "readOrder", desc := "()Z" } : MethodName)) ∈ BIG := big_in3 65 _ rfl rfl
theorem bw_546 : (Cond.instanceMethod ({ cls := "SweetWraps$Pad", name := "readOrder", desc := "()Z" } : MethodName)) ∈ BIG := big_in3 66 _ rfl rfl
theorem bw_547 : (Cond.selects "SweetWraps$Pad" ({ cls := "SweetWraps$Pad", name := "readOrder", desc := "()Z" } : MethodName) ({ cls := "SweetWraps$Pad", name := "readOrder", desc := "()Z" } : MethodName)) ∈ BIG := big_in3 67 _ rfl rfl
theorem bw_548 : (Cond.code ({ cls := "SweetWraps$Pad", name := "readOrder", desc := "()Z" } : MethodName) prog_5_method_7_code (3 : Nat) (Option.some ClassFile.FieldType.boolean)) ∈ BIG := big_in3 68 _ rfl rfl
theorem bw_549 : (Cond.methodLink "SweetWraps$Pad" (51 : Nat) ({ cls := "SweetWraps$Pad", name := "signHere", desc := "()I" } : MethodName)) ∈ BIG := big_in3 69 _ rfl rfl
theorem bw_551 : (Cond.instanceMethod ({ cls := "SweetWraps$Pad", name := "signHere", desc := "()I" } : MethodName)) ∈ BIG := big_in3 71 _ rfl rfl
theorem bw_552 : (Cond.code ({ cls := "SweetWraps$Pad", name := "signHere", desc := "()I" } : MethodName) prog_5_method_15_code (1 : Nat) (Option.some ClassFile.FieldType.int)) ∈ BIG := big_in3 72 _ rfl rfl
theorem bw_553 : (Cond.methodLink "SweetWraps$Pad" (61 : Nat) ({ cls := "SweetWraps$Pad", name := "shapeOf", desc := "(I)Ljava/lang/String;" } : MethodName)) ∈ BIG := big_in3 73 _ rfl rfl
theorem bw_554 : (Cond.static ({ cls := "SweetWraps$Pad", name := "shapeOf", desc := "(I)Ljava/lang/String;" } : MethodName)) ∈ BIG := big_in3 74 _ rfl rfl
theorem bw_555 : (Cond.code ({ cls := "SweetWraps$Pad", name := "shapeOf", desc := "(I)Ljava/lang/String;" } : MethodName) prog_5_method_8_code (1 : Nat) (Option.some (ClassFile.FieldType.object "java/lang/String"))) ∈ BIG := big_in3 75 _ rfl rfl
theorem bw_563 : (Cond.methodLink "SweetWraps$Pad" (65 : Nat) ({ cls := "java/lang/String", name := "length", desc := "()I" } : MethodName)) ∈ BIG := big_in3 83 _ rfl rfl
theorem bw_564 : (Cond.instanceMethod ({ cls := "java/lang/String", name := "length", desc := "()I" } : MethodName)) ∈ BIG := big_in3 84 _ rfl rfl
theorem bw_565 : (Cond.selects "java/lang/String" ({ cls := "java/lang/String", name := "length", desc := "()I" } : MethodName) ({ cls := "java/lang/String", name := "length", desc := "()I" } : MethodName)) ∈ BIG := big_in3 85 _ rfl rfl
theorem bw_566 : (Cond.code ({ cls := "java/lang/String", name := "length", desc := "()I" } : MethodName) prog_10_method_54_code (1 : Nat) (Option.some ClassFile.FieldType.int)) ∈ BIG := big_in3 86 _ rfl rfl
theorem bw_567 : (Cond.methodLink "java/lang/String" (335 : Nat) ({ cls := "java/lang/String", name := "coder", desc := "()B" } : MethodName)) ∈ BIG := big_in3 87 _ rfl rfl
theorem bw_568 : (Cond.instanceMethod ({ cls := "java/lang/String", name := "coder", desc := "()B" } : MethodName)) ∈ BIG := big_in3 88 _ rfl rfl
theorem bw_569 : (Cond.selects "java/lang/String" ({ cls := "java/lang/String", name := "coder", desc := "()B" } : MethodName) ({ cls := "java/lang/String", name := "coder", desc := "()B" } : MethodName)) ∈ BIG := big_in3 89 _ rfl rfl
theorem bw_570 : (Cond.code ({ cls := "java/lang/String", name := "coder", desc := "()B" } : MethodName) prog_10_method_152_code (1 : Nat) (Option.some ClassFile.FieldType.byte)) ∈ BIG := big_in3 90 _ rfl rfl
theorem bw_571 : (Cond.fieldLink "java/lang/String" (38 : Nat) "java/lang/String" "COMPACT_STRINGS" "Z") ∈ BIG := big_in3 91 _ rfl rfl
theorem bw_573 : (Cond.methodLink "SweetWraps$Pad" (69 : Nat) ({ cls := "java/lang/String", name := "charAt", desc := "(I)C" } : MethodName)) ∈ BIG := big_in3 93 _ rfl rfl
theorem bw_574 : (Cond.instanceMethod ({ cls := "java/lang/String", name := "charAt", desc := "(I)C" } : MethodName)) ∈ BIG := big_in3 94 _ rfl rfl
theorem bw_575 : (Cond.selects "java/lang/String" ({ cls := "java/lang/String", name := "charAt", desc := "(I)C" } : MethodName) ({ cls := "java/lang/String", name := "charAt", desc := "(I)C" } : MethodName)) ∈ BIG := big_in3 95 _ rfl rfl
theorem bw_576 : (Cond.code ({ cls := "java/lang/String", name := "charAt", desc := "(I)C" } : MethodName) prog_10_method_56_code (2 : Nat) (Option.some ClassFile.FieldType.char)) ∈ BIG := big_in3 96 _ rfl rfl
theorem bw_577 : (Cond.methodLink "java/lang/String" (492 : Nat) ({ cls := "java/lang/String", name := "isLatin1", desc := "()Z" } : MethodName)) ∈ BIG := big_in3 97 _ rfl rfl
theorem bw_578 : (Cond.instanceMethod ({ cls := "java/lang/String", name := "isLatin1", desc := "()Z" } : MethodName)) ∈ BIG := big_in3 98 _ rfl rfl
theorem bw_579 : (Cond.selects "java/lang/String" ({ cls := "java/lang/String", name := "isLatin1", desc := "()Z" } : MethodName) ({ cls := "java/lang/String", name := "isLatin1", desc := "()Z" } : MethodName)) ∈ BIG := big_in3 99 _ rfl rfl
theorem bw_580 : (Cond.code ({ cls := "java/lang/String", name := "isLatin1", desc := "()Z" } : MethodName) prog_10_method_154_code (1 : Nat) (Option.some ClassFile.FieldType.boolean)) ∈ BIG := big_in3 100 _ rfl rfl
theorem bw_581 : (Cond.methodLink "java/lang/String" (495 : Nat) ({ cls := "java/lang/StringLatin1", name := "charAt", desc := "([BI)C" } : MethodName)) ∈ BIG := big_in3 101 _ rfl rfl
theorem bw_582 : (Cond.static ({ cls := "java/lang/StringLatin1", name := "charAt", desc := "([BI)C" } : MethodName)) ∈ BIG := big_in3 102 _ rfl rfl
theorem bw_583 : (Cond.code ({ cls := "java/lang/StringLatin1", name := "charAt", desc := "([BI)C" } : MethodName) prog_11_method_2_code (2 : Nat) (Option.some ClassFile.FieldType.char)) ∈ BIG := big_in3 103 _ rfl rfl
theorem bw_584 : (Cond.methodLink "java/lang/StringLatin1" (9 : Nat) ({ cls := "java/lang/String", name := "checkIndex", desc := "(II)V" } : MethodName)) ∈ BIG := big_in3 104 _ rfl rfl
theorem bw_585 : (Cond.static ({ cls := "java/lang/String", name := "checkIndex", desc := "(II)V" } : MethodName)) ∈ BIG := big_in3 105 _ rfl rfl
theorem bw_586 : (Cond.code ({ cls := "java/lang/String", name := "checkIndex", desc := "(II)V" } : MethodName) prog_10_method_155_code (2 : Nat) (Option.none : Option ClassFile.FieldType)) ∈ BIG := big_in3 106 _ rfl rfl
theorem bw_587 : (Cond.fieldLink "java/lang/String" (1053 : Nat) "jdk/internal/util/Preconditions" "SIOOBE_FORMATTER" "Ljava/util/function/BiFunction;") ∈ BIG := big_in3 107 _ rfl rfl
theorem bw_589 : (Cond.methodLink "java/lang/String" (1059 : Nat) ({ cls := "jdk/internal/util/Preconditions", name := "checkIndex", desc := "(IILjava/util/function/BiFunction;)I" } : MethodName)) ∈ BIG := big_in3 109 _ rfl rfl
theorem bw_590 : (Cond.static ({ cls := "jdk/internal/util/Preconditions", name := "checkIndex", desc := "(IILjava/util/function/BiFunction;)I" } : MethodName)) ∈ BIG := big_in3 110 _ rfl rfl
theorem bw_591 : (Cond.code ({ cls := "jdk/internal/util/Preconditions", name := "checkIndex", desc := "(IILjava/util/function/BiFunction;)I" } : MethodName) prog_14_method_11_code (3 : Nat) (Option.some ClassFile.FieldType.int)) ∈ BIG := big_in3 111 _ rfl rfl
theorem bw_592 : (Cond.methodLink "java/lang/String" (498 : Nat) ({ cls := "java/lang/StringUTF16", name := "charAt", desc := "([BI)C" } : MethodName)) ∈ BIG := big_in3 112 _ rfl rfl
theorem bw_593 : (Cond.static ({ cls := "java/lang/StringUTF16", name := "charAt", desc := "([BI)C" } : MethodName)) ∈ BIG := big_in3 113 _ rfl rfl
theorem bw_594 : (Cond.code ({ cls := "java/lang/StringUTF16", name := "charAt", desc := "([BI)C" } : MethodName) prog_12_method_83_code (2 : Nat) (Option.some ClassFile.FieldType.char)) ∈ BIG := big_in3 114 _ rfl rfl
theorem bw_595 : (Cond.methodLink "java/lang/StringUTF16" (67 : Nat) ({ cls := "java/lang/StringUTF16", name := "checkIndex", desc := "(I[B)V" } : MethodName)) ∈ BIG := big_in3 115 _ rfl rfl
theorem bw_596 : (Cond.static ({ cls := "java/lang/StringUTF16", name := "checkIndex", desc := "(I[B)V" } : MethodName)) ∈ BIG := big_in3 116 _ rfl rfl
theorem bw_597 : (Cond.code ({ cls := "java/lang/StringUTF16", name := "checkIndex", desc := "(I[B)V" } : MethodName) prog_12_method_91_code (2 : Nat) (Option.none : Option ClassFile.FieldType)) ∈ BIG := big_in3 117 _ rfl rfl
theorem bw_598 : (Cond.methodLink "java/lang/StringUTF16" (48 : Nat) ({ cls := "java/lang/StringUTF16", name := "length", desc := "([B)I" } : MethodName)) ∈ BIG := big_in3 118 _ rfl rfl
theorem bw_599 : (Cond.static ({ cls := "java/lang/StringUTF16", name := "length", desc := "([B)I" } : MethodName)) ∈ BIG := big_in3 119 _ rfl rfl
theorem bw_600 : (Cond.code ({ cls := "java/lang/StringUTF16", name := "length", desc := "([B)I" } : MethodName) prog_12_method_6_code (1 : Nat) (Option.some ClassFile.FieldType.int)) ∈ BIG := big_in3 120 _ rfl rfl
theorem bw_601 : (Cond.methodLink "java/lang/StringUTF16" (414 : Nat) ({ cls := "java/lang/String", name := "checkIndex", desc := "(II)V" } : MethodName)) ∈ BIG := big_in3 121 _ rfl rfl
theorem bw_602 : (Cond.methodLink "java/lang/StringUTF16" (71 : Nat) ({ cls := "java/lang/StringUTF16", name := "getChar", desc := "([BI)C" } : MethodName)) ∈ BIG := big_in3 122 _ rfl rfl
theorem bw_603 : (Cond.static ({ cls := "java/lang/StringUTF16", name := "getChar", desc := "([BI)C" } : MethodName)) ∈ BIG := big_in3 123 _ rfl rfl
theorem bw_604 : (Cond.code ({ cls := "java/lang/StringUTF16", name := "getChar", desc := "([BI)C" } : MethodName) prog_12_method_5_code (2 : Nat) (Option.some ClassFile.FieldType.char)) ∈ BIG := big_in3 124 _ rfl rfl
theorem bw_605 : (Cond.fieldLink "java/lang/StringUTF16" (44 : Nat) "java/lang/StringUTF16" "$assertionsDisabled" "Z") ∈ BIG := big_in3 125 _ rfl rfl
theorem bw_607 : (Cond.fieldLink "java/lang/StringUTF16" (59 : Nat) "java/lang/StringUTF16" "HI_BYTE_SHIFT" "I") ∈ BIG := big_in3 127 _ rfl rfl
theorem bw_609 : (Cond.fieldLink "java/lang/StringUTF16" (63 : Nat) "java/lang/StringUTF16" "LO_BYTE_SHIFT" "I") ∈ BIG := big_in3 129 _ rfl rfl
theorem bw_611 : (Cond.methodLink "SweetWraps$Pad" (73 : Nat) ({ cls := "SweetWraps$Pad", name := "readPart", desc := "(I)Z" } : MethodName)) ∈ BIG := big_in3 131 _ rfl rfl
theorem bw_613 : (Cond.instanceMethod ({ cls := "SweetWraps$Pad", name := "readPart", desc := "(I)Z" } : MethodName)) ∈ BIG := big_in3 133 _ rfl rfl
theorem bw_614 : (Cond.code ({ cls := "SweetWraps$Pad", name := "readPart", desc := "(I)Z" } : MethodName) prog_5_method_9_code (2 : Nat) (Option.some ClassFile.FieldType.boolean)) ∈ BIG := big_in3 134 _ rfl rfl
theorem bw_615 : (Cond.methodLink "SweetWraps$Pad" (93 : Nat) ({ cls := "SweetWraps$Pad", name := "readDigit", desc := "()Z" } : MethodName)) ∈ BIG := big_in3 135 _ rfl rfl
theorem bw_617 : (Cond.instanceMethod ({ cls := "SweetWraps$Pad", name := "readDigit", desc := "()Z" } : MethodName)) ∈ BIG := big_in3 137 _ rfl rfl
theorem bw_618 : (Cond.code ({ cls := "SweetWraps$Pad", name := "readDigit", desc := "()Z" } : MethodName) prog_5_method_11_code (1 : Nat) (Option.some ClassFile.FieldType.boolean)) ∈ BIG := big_in3 138 _ rfl rfl
theorem bw_619 : (Cond.methodLink "SweetWraps$Pad" (99 : Nat) ({ cls := "SweetWraps$Pad", name := "isDigitHere", desc := "()Z" } : MethodName)) ∈ BIG := big_in3 139 _ rfl rfl
theorem bw_621 : (Cond.instanceMethod ({ cls := "SweetWraps$Pad", name := "isDigitHere", desc := "()Z" } : MethodName)) ∈ BIG := big_in3 141 _ rfl rfl
theorem bw_622 : (Cond.code ({ cls := "SweetWraps$Pad", name := "isDigitHere", desc := "()Z" } : MethodName) prog_5_method_14_code (1 : Nat) (Option.some ClassFile.FieldType.boolean)) ∈ BIG := big_in3 142 _ rfl rfl
theorem bw_623 : (Cond.methodLink "SweetWraps$Pad" (102 : Nat) ({ cls := "SweetWraps$Pad", name := "keepValue", desc := "(I)V" } : MethodName)) ∈ BIG := big_in3 143 _ rfl rfl
theorem bw_625 : (Cond.instanceMethod ({ cls := "SweetWraps$Pad", name := "keepValue", desc := "(I)V" } : MethodName)) ∈ BIG := big_in3 145 _ rfl rfl
theorem bw_626 : (Cond.code ({ cls := "SweetWraps$Pad", name := "keepValue", desc := "(I)V" } : MethodName) prog_5_method_13_code (2 : Nat) (Option.none : Option ClassFile.FieldType)) ∈ BIG := big_in3 146 _ rfl rfl
theorem bw_627 : (Cond.methodLink "SweetWraps$Pad" (96 : Nat) ({ cls := "SweetWraps$Pad", name := "readNumber", desc := "()Z" } : MethodName)) ∈ BIG := big_in3 147 _ rfl rfl
theorem bw_629 : (Cond.instanceMethod ({ cls := "SweetWraps$Pad", name := "readNumber", desc := "()Z" } : MethodName)) ∈ BIG := big_in3 149 _ rfl rfl
theorem bw_630 : (Cond.code ({ cls := "SweetWraps$Pad", name := "readNumber", desc := "()Z" } : MethodName) prog_5_method_12_code (3 : Nat) (Option.some ClassFile.FieldType.boolean)) ∈ BIG := big_in3 150 _ rfl rfl
theorem bw_631 : (Cond.methodLink "SweetWraps$Pad" (47 : Nat) ({ cls := "SweetWraps$Pad", name := "readSign", desc := "(I)Z" } : MethodName)) ∈ BIG := big_in3 151 _ rfl rfl
theorem bw_632 : (Cond.instanceMethod ({ cls := "SweetWraps$Pad", name := "readSign", desc := "(I)Z" } : MethodName)) ∈ BIG := big_in3 152 _ rfl rfl
theorem bw_633 : (Cond.selects "SweetWraps$Pad" ({ cls := "SweetWraps$Pad", name := "readSign", desc := "(I)Z" } : MethodName) ({ cls := "SweetWraps$Pad", name := "readSign", desc := "(I)Z" } : MethodName)) ∈ BIG := big_in3 153 _ rfl rfl
theorem bw_634 : (Cond.code ({ cls := "SweetWraps$Pad", name := "readSign", desc := "(I)Z" } : MethodName) prog_5_method_10_code (2 : Nat) (Option.some ClassFile.FieldType.boolean)) ∈ BIG := big_in3 154 _ rfl rfl
theorem bw_635 : (Cond.methodLink "SweetWraps$Pad" (76 : Nat) ({ cls := "java/lang/String", name := "isEmpty", desc := "()Z" } : MethodName)) ∈ BIG := big_in3 155 _ rfl rfl
theorem bw_636 : (Cond.instanceMethod ({ cls := "java/lang/String", name := "isEmpty", desc := "()Z" } : MethodName)) ∈ BIG := big_in3 156 _ rfl rfl
theorem bw_637 : (Cond.selects "java/lang/String" ({ cls := "java/lang/String", name := "isEmpty", desc := "()Z" } : MethodName) ({ cls := "java/lang/String", name := "isEmpty", desc := "()Z" } : MethodName)) ∈ BIG := big_in3 157 _ rfl rfl
theorem bw_638 : (Cond.code ({ cls := "java/lang/String", name := "isEmpty", desc := "()Z" } : MethodName) prog_10_method_55_code (1 : Nat) (Option.some ClassFile.FieldType.boolean)) ∈ BIG := big_in3 158 _ rfl rfl
theorem bw_639 : (Cond.arrayClass ClassFile.FieldType.byte) ∈ BIG := big_in3 159 _ rfl rfl
theorem bw_640 : (Cond.methodLink "SweetWrapsLaw" (108 : Nat) ({ cls := "SweetWraps", name := "carryOut", desc := "()I" } : MethodName)) ∈ BIG := big_in3 160 _ rfl rfl
theorem bw_641 : (Cond.instanceMethod ({ cls := "SweetWraps", name := "carryOut", desc := "()I" } : MethodName)) ∈ BIG := big_in3 161 _ rfl rfl
theorem bw_642 : (Cond.selects "SweetWraps" ({ cls := "SweetWraps", name := "carryOut", desc := "()I" } : MethodName) ({ cls := "SweetWraps", name := "carryOut", desc := "()I" } : MethodName)) ∈ BIG := big_in3 162 _ rfl rfl
theorem bw_643 : (Cond.code ({ cls := "SweetWraps", name := "carryOut", desc := "()I" } : MethodName) prog_1_method_24_code (3 : Nat) (Option.some ClassFile.FieldType.int)) ∈ BIG := big_in3 163 _ rfl rfl
theorem bw_644 : (Cond.methodLink "SweetWraps" (154 : Nat) ({ cls := "SweetWraps$Pad", name := "startReading", desc := "()V" } : MethodName)) ∈ BIG := big_in3 164 _ rfl rfl
theorem bw_645 : (Cond.methodLink "SweetWraps" (157 : Nat) ({ cls := "SweetWraps$Pad", name := "readOrder", desc := "()Z" } : MethodName)) ∈ BIG := big_in3 165 _ rfl rfl
theorem bw_646 : (Cond.methodLink "SweetWraps" (161 : Nat) ({ cls := "SweetWraps", name := "carryOrder", desc := "()I" } : MethodName)) ∈ BIG := big_in3 166 _ rfl rfl
theorem bw_648 : (Cond.instanceMethod ({ cls := "SweetWraps", name := "carryOrder", desc := "()I" } : MethodName)) ∈ BIG := big_in3 168 _ rfl rfl
theorem bw_649 : (Cond.code ({ cls := "SweetWraps", name := "carryOrder", desc := "()I" } : MethodName) prog_1_method_25_code (1 : Nat) (Option.some ClassFile.FieldType.int)) ∈ BIG := big_in3 169 _ rfl rfl
theorem bw_650 : (Cond.methodLink "SweetWraps" (164 : Nat) ({ cls := "SweetWraps$Pad", name := "readSign", desc := "(I)Z" } : MethodName)) ∈ BIG := big_in3 170 _ rfl rfl
theorem bw_651 : (Cond.methodLink "SweetWrapsLaw" (112 : Nat) ({ cls := "SweetWraps", name := "undo", desc := "()I" } : MethodName)) ∈ BIG := big_in3 171 _ rfl rfl
theorem bw_652 : (Cond.instanceMethod ({ cls := "SweetWraps", name := "undo", desc := "()I" } : MethodName)) ∈ BIG := big_in3 172 _ rfl rfl
theorem bw_653 : (Cond.selects "SweetWraps" ({ cls := "SweetWraps", name := "undo", desc := "()I" } : MethodName) ({ cls := "SweetWraps", name := "undo", desc := "()I" } : MethodName)) ∈ BIG := big_in3 173 _ rfl rfl
theorem bw_654 : (Cond.code ({ cls := "SweetWraps", name := "undo", desc := "()I" } : MethodName) prog_1_method_26_code (1 : Nat) (Option.some ClassFile.FieldType.int)) ∈ BIG := big_in3 174 _ rfl rfl
theorem bw_655 : (Cond.methodLink "SweetWraps" (174 : Nat) ({ cls := "SweetWraps$History", name := "stepBack", desc := "(LSweetWraps$Machine;)I" } : MethodName)) ∈ BIG := big_in3 175 _ rfl rfl
theorem bw_656 : (Cond.instanceMethod ({ cls := "SweetWraps$History", name := "stepBack", desc := "(LSweetWraps$Machine;)I" } : MethodName)) ∈ BIG := big_in3 176 _ rfl rfl
theorem bw_657 : (Cond.selects "SweetWraps$History" ({ cls := "SweetWraps$History", name := "stepBack", desc := "(LSweetWraps$Machine;)I" } : MethodName) ({ cls := "SweetWraps$History", name := "stepBack", desc := "(LSweetWraps$Machine;)I" } : MethodName)) ∈ BIG := big_in3 177 _ rfl rfl
theorem bw_658 : (Cond.code ({ cls := "SweetWraps$History", name := "stepBack", desc := "(LSweetWraps$Machine;)I" } : MethodName) prog_2_method_5_code (2 : Nat) (Option.some ClassFile.FieldType.int)) ∈ BIG := big_in3 178 _ rfl rfl
theorem bw_659 : (Cond.methodLink "SweetWrapsLaw" (116 : Nat) ({ cls := "SweetWraps", name := "save", desc := "(I)I" } : MethodName)) ∈ BIG := big_in3 179 _ rfl rfl
theorem bw_660 : (Cond.instanceMethod ({ cls := "SweetWraps", name := "save", desc := "(I)I" } : MethodName)) ∈ BIG := big_in3 180 _ rfl rfl
theorem bw_661 : (Cond.selects "SweetWraps" ({ cls := "SweetWraps", name := "save", desc := "(I)I" } : MethodName) ({ cls := "SweetWraps", name := "save", desc := "(I)I" } : MethodName)) ∈ BIG := big_in3 181 _ rfl rfl
theorem bw_662 : (Cond.code ({ cls := "SweetWraps", name := "save", desc := "(I)I" } : MethodName) prog_1_method_27_code (2 : Nat) (Option.some ClassFile.FieldType.int)) ∈ BIG := big_in3 182 _ rfl rfl
theorem bw_663 : (Cond.methodLink "SweetWrapsLaw" (120 : Nat) ({ cls := "SweetWraps", name := "restore", desc := "(I)I" } : MethodName)) ∈ BIG := big_in3 183 _ rfl rfl
theorem bw_664 : (Cond.instanceMethod ({ cls := "SweetWraps", name := "restore", desc := "(I)I" } : MethodName)) ∈ BIG := big_in3 184 _ rfl rfl
theorem bw_665 : (Cond.selects "SweetWraps" ({ cls := "SweetWraps", name := "restore", desc := "(I)I" } : MethodName) ({ cls := "SweetWraps", name := "restore", desc := "(I)I" } : MethodName)) ∈ BIG := big_in3 185 _ rfl rfl
theorem bw_666 : (Cond.code ({ cls := "SweetWraps", name := "restore", desc := "(I)I" } : MethodName) prog_1_method_28_code (2 : Nat) (Option.some ClassFile.FieldType.int)) ∈ BIG := big_in3 186 _ rfl rfl
theorem bw_667 : (Cond.classLink "SweetWrapsLaw" (10 : Nat) "SweetWrapsModel") ∈ BIG := big_in3 187 _ rfl rfl
theorem bw_668 : (Cond.instantiable "SweetWrapsModel" (11 : Nat)) ∈ BIG := big_in3 188 _ rfl rfl
theorem bw_669 : (Cond.methodLink "SweetWrapsLaw" (12 : Nat) ({ cls := "SweetWrapsModel", name := "<init>", desc := "()V" } : MethodName)) ∈ BIG := big_in3 189 _ rfl rfl
theorem bw_670 : (Cond.instanceMethod ({ cls := "SweetWrapsModel", name := "<init>", desc := "()V" } : MethodName)) ∈ BIG := big_in3 190 _ rfl rfl
theorem bw_671 : (Cond.code ({ cls := "SweetWrapsModel", name := "<init>", desc := "()V" } : MethodName) prog_8_method_1_code (1 : Nat) (Option.none : Option ClassFile.FieldType)) ∈ BIG := big_in3 191 _ rfl rfl
theorem bw_672 : (Cond.methodLink "SweetWrapsModel" (1 : Nat) ({ cls := "java/lang/Object", name := "<init>", desc := "()V" } : MethodName)) ∈ BIG := big_in3 192 _ rfl rfl
theorem bw_673 : (Cond.fieldLink "SweetWrapsModel" (7 : Nat) "SweetWrapsModel" "s" "[I") ∈ BIG := big_in3 193 _ rfl rfl
theorem bw_674 : (Cond.fieldLink "SweetWrapsModel" (13 : Nat) "SweetWrapsModel" "aside" "[I") ∈ BIG := big_in3 194 _ rfl rfl
theorem bw_675 : (Cond.fieldLink "SweetWrapsModel" (16 : Nat) "SweetWrapsModel" "before" "[I") ∈ BIG := big_in3 195 _ rfl rfl
theorem bw_676 : (Cond.fieldLink "SweetWrapsModel" (32 : Nat) "SweetWrapsModel" "known" "I") ∈ BIG := big_in3 196 _ rfl rfl
theorem bw_677 : (Cond.fieldLink "SweetWrapsModel" (19 : Nat) "SweetWrapsModel" "kept" "[I") ∈ BIG := big_in3 197 _ rfl rfl
theorem bw_678 : (Cond.fieldLink "SweetWrapsModel" (22 : Nat) "SweetWrapsModel" "isKept" "[Z") ∈ BIG := big_in3 198 _ rfl rfl
theorem bw_679 : (Cond.fieldLink "SweetWrapsModel" (26 : Nat) "SweetWrapsModel" "pad" "[I") ∈ BIG := big_in3 199 _ rfl rfl
theorem bw_680 : (Cond.fieldLink "SweetWrapsModel" (156 : Nat) "SweetWrapsModel" "length" "I") ∈ BIG := big_in3 200 _ rfl rfl
theorem bw_681 : (Cond.fieldLink "SweetWrapsModel" (29 : Nat) "SweetWrapsModel" "stood" "[I") ∈ BIG := big_in3 201 _ rfl rfl
theorem bw_682 : (Cond.fieldLink "SweetWrapsModel" (168 : Nat) "SweetWrapsModel" "place" "I") ∈ BIG := big_in3 202 _ rfl rfl
theorem bw_683 : (Cond.fieldLink "SweetWrapsModel" (171 : Nat) "SweetWrapsModel" "isWrong" "Z") ∈ BIG := big_in3 203 _ rfl rfl
theorem bw_684 : (Cond.laysFinal "SweetWrapsModel" "SweetWrapsModel" "s" "[I") ∈ BIG := big_in3 204 _ rfl rfl
theorem bw_686 : (Cond.laysFinal "SweetWrapsModel" "SweetWrapsModel" "aside" "[I") ∈ BIG := big_in3 206 _ rfl rfl
theorem bw_688 : (Cond.laysFinal "SweetWrapsModel" "SweetWrapsModel" "before" "[I") ∈ BIG := big_in3 208 _ rfl rfl
theorem bw_690 : (Cond.lays "SweetWrapsModel" "SweetWrapsModel" "known" "I") ∈ BIG := big_in3 210 _ rfl rfl
theorem bw_692 : (Cond.laysFinal "SweetWrapsModel" "SweetWrapsModel" "kept" "[I") ∈ BIG := big_in3 212 _ rfl rfl
theorem bw_694 : (Cond.laysFinal "SweetWrapsModel" "SweetWrapsModel" "isKept" "[Z") ∈ BIG := big_in3 214 _ rfl rfl
theorem bw_696 : (Cond.laysFinal "SweetWrapsModel" "SweetWrapsModel" "pad" "[I") ∈ BIG := big_in3 216 _ rfl rfl
theorem bw_698 : (Cond.lays "SweetWrapsModel" "SweetWrapsModel" "length" "I") ∈ BIG := big_in3 218 _ rfl rfl
theorem bw_700 : (Cond.laysFinal "SweetWrapsModel" "SweetWrapsModel" "stood" "[I") ∈ BIG := big_in3 220 _ rfl rfl
theorem bw_702 : (Cond.lays "SweetWrapsModel" "SweetWrapsModel" "place" "I") ∈ BIG := big_in3 222 _ rfl rfl
theorem bw_704 : (Cond.lays "SweetWrapsModel" "SweetWrapsModel" "isWrong" "Z") ∈ BIG := big_in3 224 _ rfl rfl
theorem bw_707 : (Cond.methodLink "SweetWrapsLaw" (17 : Nat) ({ cls := "SweetWrapsModel", name := "set", desc := "(II)I" } : MethodName)) ∈ BIG := big_in3 227 _ rfl rfl
theorem bw_708 : (Cond.instanceMethod ({ cls := "SweetWrapsModel", name := "set", desc := "(II)I" } : MethodName)) ∈ BIG := big_in3 228 _ rfl rfl
theorem bw_709 : (Cond.selects "SweetWrapsModel" ({ cls := "SweetWrapsModel", name := "set", desc := "(II)I" } : MethodName) ({ cls := "SweetWrapsModel", name := "set", desc := "(II)I" } : MethodName)) ∈ BIG := big_in3 229 _ rfl rfl
theorem bw_710 : (Cond.code ({ cls := "SweetWrapsModel", name := "set", desc := "(II)I" } : MethodName) prog_8_method_33_code (6 : Nat) (Option.some ClassFile.FieldType.int)) ∈ BIG := big_in3 230 _ rfl rfl
theorem bw_711 : (Cond.methodLink "SweetWrapsModel" (36 : Nat) ({ cls := "SweetWrapsModel", name := "in", desc := "(III)Z" } : MethodName)) ∈ BIG := big_in3 231 _ rfl rfl
theorem bw_712 : (Cond.static ({ cls := "SweetWrapsModel", name := "in", desc := "(III)Z" } : MethodName)) ∈ BIG := big_in3 232 _ rfl rfl
theorem bw_713 : (Cond.code ({ cls := "SweetWrapsModel", name := "in", desc := "(III)Z" } : MethodName) prog_8_method_3_code (3 : Nat) (Option.some ClassFile.FieldType.boolean)) ∈ BIG := big_in3 233 _ rfl rfl
theorem bw_714 : (Cond.methodLink "SweetWrapsModel" (104 : Nat) ({ cls := "SweetWrapsModel", name := "record", desc := "()V" } : MethodName)) ∈ BIG := big_in3 234 _ rfl rfl
theorem bw_716 : (Cond.instanceMethod ({ cls := "SweetWrapsModel", name := "record", desc := "()V" } : MethodName)) ∈ BIG := big_in3 236 _ rfl rfl
theorem bw_717 : (Cond.code ({ cls := "SweetWrapsModel", name := "record", desc := "()V" } : MethodName) prog_8_method_6_code (2 : Nat) (Option.none : Option ClassFile.FieldType)) ∈ BIG := big_in3 237 _ rfl rfl
theorem bw_718 : (Cond.methodLink "SweetWrapsLaw" (22 : Nat) ({ cls := "SweetWrapsModel", name := "heap", desc := "(III)I" } : MethodName)) ∈ BIG := big_in3 238 _ rfl rfl
theorem bw_719 : (Cond.instanceMethod ({ cls := "SweetWrapsModel", name := "heap", desc := "(III)I" } : MethodName)) ∈ BIG := big_in3 239 _ rfl rfl
theorem bw_720 : (Cond.selects "SweetWrapsModel" ({ cls := "SweetWrapsModel", name := "heap", desc := "(III)I" } : MethodName) ({ cls := "SweetWrapsModel", name := "heap", desc := "(III)I" } : MethodName)) ∈ BIG := big_in4 0 _ rfl rfl
theorem bw_721 : (Cond.code ({ cls := "SweetWrapsModel", name := "heap", desc := "(III)I" } : MethodName) prog_8_method_34_code (4 : Nat) (Option.some ClassFile.FieldType.int)) ∈ BIG := big_in4 1 _ rfl rfl
theorem bw_722 : (Cond.methodLink "SweetWrapsModel" (107 : Nat) ({ cls := "SweetWrapsModel", name := "putAside", desc := "()V" } : MethodName)) ∈ BIG := big_in4 2 _ rfl rfl
theorem bw_724 : (Cond.instanceMethod ({ cls := "SweetWrapsModel", name := "putAside", desc := "()V" } : MethodName)) ∈ BIG := big_in4 4 _ rfl rfl
theorem bw_725 : (Cond.code ({ cls := "SweetWrapsModel", name := "putAside", desc := "()V" } : MethodName) prog_8_method_4_code (2 : Nat) (Option.none : Option ClassFile.FieldType)) ∈ BIG := big_in4 5 _ rfl rfl
theorem bw_726 : (Cond.methodLink "SweetWrapsModel" (110 : Nat) ({ cls := "SweetWrapsModel", name := "heaps", desc := "(III)I" } : MethodName)) ∈ BIG := big_in4 6 _ rfl rfl
theorem bw_728 : (Cond.instanceMethod ({ cls := "SweetWrapsModel", name := "heaps", desc := "(III)I" } : MethodName)) ∈ BIG := big_in4 8 _ rfl rfl
theorem bw_729 : (Cond.code ({ cls := "SweetWrapsModel", name := "heaps", desc := "(III)I" } : MethodName) prog_8_method_24_code (7 : Nat) (Option.some ClassFile.FieldType.int)) ∈ BIG := big_in4 9 _ rfl rfl
theorem bw_730 : (Cond.methodLink "SweetWrapsModel" (85 : Nat) ({ cls := "SweetWrapsModel", name := "isLane", desc := "(I)Z" } : MethodName)) ∈ BIG := big_in4 10 _ rfl rfl
theorem bw_731 : (Cond.static ({ cls := "SweetWrapsModel", name := "isLane", desc := "(I)Z" } : MethodName)) ∈ BIG := big_in4 11 _ rfl rfl
theorem bw_732 : (Cond.code ({ cls := "SweetWrapsModel", name := "isLane", desc := "(I)Z" } : MethodName) prog_8_method_7_code (1 : Nat) (Option.some ClassFile.FieldType.boolean)) ∈ BIG := big_in4 12 _ rfl rfl
theorem bw_733 : (Cond.methodLink "SweetWrapsModel" (88 : Nat) ({ cls := "SweetWrapsModel", name := "isFlavour", desc := "(I)Z" } : MethodName)) ∈ BIG := big_in4 13 _ rfl rfl
theorem bw_734 : (Cond.static ({ cls := "SweetWrapsModel", name := "isFlavour", desc := "(I)Z" } : MethodName)) ∈ BIG := big_in4 14 _ rfl rfl
theorem bw_735 : (Cond.code ({ cls := "SweetWrapsModel", name := "isFlavour", desc := "(I)Z" } : MethodName) prog_8_method_8_code (1 : Nat) (Option.some ClassFile.FieldType.boolean)) ∈ BIG := big_in4 15 _ rfl rfl
theorem bw_736 : (Cond.methodLink "SweetWrapsModel" (65 : Nat) ({ cls := "SweetWrapsModel", name := "heapFlavour", desc := "(II)I" } : MethodName)) ∈ BIG := big_in4 16 _ rfl rfl
theorem bw_738 : (Cond.instanceMethod ({ cls := "SweetWrapsModel", name := "heapFlavour", desc := "(II)I" } : MethodName)) ∈ BIG := big_in4 18 _ rfl rfl
theorem bw_739 : (Cond.code ({ cls := "SweetWrapsModel", name := "heapFlavour", desc := "(II)I" } : MethodName) prog_8_method_10_code (3 : Nat) (Option.some ClassFile.FieldType.int)) ∈ BIG := big_in4 19 _ rfl rfl
theorem bw_740 : (Cond.methodLink "SweetWrapsModel" (40 : Nat) ({ cls := "SweetWrapsModel", name := "lane", desc := "(II)I" } : MethodName)) ∈ BIG := big_in4 20 _ rfl rfl
theorem bw_742 : (Cond.instanceMethod ({ cls := "SweetWrapsModel", name := "lane", desc := "(II)I" } : MethodName)) ∈ BIG := big_in4 22 _ rfl rfl
theorem bw_743 : (Cond.code ({ cls := "SweetWrapsModel", name := "lane", desc := "(II)I" } : MethodName) prog_8_method_9_code (3 : Nat) (Option.some ClassFile.FieldType.int)) ∈ BIG := big_in4 23 _ rfl rfl
theorem bw_744 : (Cond.methodLink "SweetWrapsModel" (91 : Nat) ({ cls := "SweetWrapsModel", name := "inHopper", desc := "(I)I" } : MethodName)) ∈ BIG := big_in4 24 _ rfl rfl
theorem bw_746 : (Cond.instanceMethod ({ cls := "SweetWrapsModel", name := "inHopper", desc := "(I)I" } : MethodName)) ∈ BIG := big_in4 26 _ rfl rfl
theorem bw_747 : (Cond.code ({ cls := "SweetWrapsModel", name := "inHopper", desc := "(I)I" } : MethodName) prog_8_method_12_code (4 : Nat) (Option.some ClassFile.FieldType.int)) ∈ BIG := big_in4 27 _ rfl rfl
theorem bw_748 : (Cond.methodLink "SweetWrapsModel" (44 : Nat) ({ cls := "SweetWrapsModel", name := "heapMany", desc := "(II)I" } : MethodName)) ∈ BIG := big_in4 28 _ rfl rfl
theorem bw_750 : (Cond.instanceMethod ({ cls := "SweetWrapsModel", name := "heapMany", desc := "(II)I" } : MethodName)) ∈ BIG := big_in4 30 _ rfl rfl
theorem bw_751 : (Cond.code ({ cls := "SweetWrapsModel", name := "heapMany", desc := "(II)I" } : MethodName) prog_8_method_11_code (3 : Nat) (Option.some ClassFile.FieldType.int)) ∈ BIG := big_in4 31 _ rfl rfl
theorem bw_752 : (Cond.methodLink "SweetWrapsModel" (114 : Nat) ({ cls := "SweetWrapsModel", name := "end", desc := "(I)I" } : MethodName)) ∈ BIG := big_in4 32 _ rfl rfl
theorem bw_754 : (Cond.instanceMethod ({ cls := "SweetWrapsModel", name := "end", desc := "(I)I" } : MethodName)) ∈ BIG := big_in4 34 _ rfl rfl
theorem bw_755 : (Cond.code ({ cls := "SweetWrapsModel", name := "end", desc := "(I)I" } : MethodName) prog_8_method_32_code (4 : Nat) (Option.some ClassFile.FieldType.int)) ∈ BIG := big_in4 35 _ rfl rfl
theorem bw_756 : (Cond.methodLink "SweetWrapsLaw" (26 : Nat) ({ cls := "SweetWrapsModel", name := "foil", desc := "(II)I" } : MethodName)) ∈ BIG := big_in4 36 _ rfl rfl
theorem bw_757 : (Cond.instanceMethod ({ cls := "SweetWrapsModel", name := "foil", desc := "(II)I" } : MethodName)) ∈ BIG := big_in4 37 _ rfl rfl
theorem bw_758 : (Cond.selects "SweetWrapsModel" ({ cls := "SweetWrapsModel", name := "foil", desc := "(II)I" } : MethodName) ({ cls := "SweetWrapsModel", name := "foil", desc := "(II)I" } : MethodName)) ∈ BIG := big_in4 38 _ rfl rfl
theorem bw_759 : (Cond.code ({ cls := "SweetWrapsModel", name := "foil", desc := "(II)I" } : MethodName) prog_8_method_35_code (3 : Nat) (Option.some ClassFile.FieldType.int)) ∈ BIG := big_in4 39 _ rfl rfl
theorem bw_760 : (Cond.methodLink "SweetWrapsModel" (117 : Nat) ({ cls := "SweetWrapsModel", name := "foils", desc := "(II)I" } : MethodName)) ∈ BIG := big_in4 40 _ rfl rfl
theorem bw_762 : (Cond.instanceMethod ({ cls := "SweetWrapsModel", name := "foils", desc := "(II)I" } : MethodName)) ∈ BIG := big_in4 42 _ rfl rfl
theorem bw_763 : (Cond.code ({ cls := "SweetWrapsModel", name := "foils", desc := "(II)I" } : MethodName) prog_8_method_25_code (3 : Nat) (Option.some ClassFile.FieldType.int)) ∈ BIG := big_in4 43 _ rfl rfl
theorem bw_764 : (Cond.methodLink "SweetWrapsLaw" (31 : Nat) ({ cls := "SweetWrapsModel", name := "tin", desc := "()I" } : MethodName)) ∈ BIG := big_in4 44 _ rfl rfl
theorem bw_765 : (Cond.instanceMethod ({ cls := "SweetWrapsModel", name := "tin", desc := "()I" } : MethodName)) ∈ BIG := big_in4 45 _ rfl rfl
theorem bw_766 : (Cond.selects "SweetWrapsModel" ({ cls := "SweetWrapsModel", name := "tin", desc := "()I" } : MethodName) ({ cls := "SweetWrapsModel", name := "tin", desc := "()I" } : MethodName)) ∈ BIG := big_in4 46 _ rfl rfl
theorem bw_767 : (Cond.code ({ cls := "SweetWrapsModel", name := "tin", desc := "()I" } : MethodName) prog_8_method_36_code (1 : Nat) (Option.some ClassFile.FieldType.int)) ∈ BIG := big_in4 47 _ rfl rfl
theorem bw_768 : (Cond.methodLink "SweetWrapsModel" (120 : Nat) ({ cls := "SweetWrapsModel", name := "tins", desc := "()I" } : MethodName)) ∈ BIG := big_in4 48 _ rfl rfl
theorem bw_770 : (Cond.instanceMethod ({ cls := "SweetWrapsModel", name := "tins", desc := "()I" } : MethodName)) ∈ BIG := big_in4 50 _ rfl rfl
theorem bw_771 : (Cond.code ({ cls := "SweetWrapsModel", name := "tins", desc := "()I" } : MethodName) prog_8_method_26_code (1 : Nat) (Option.some ClassFile.FieldType.int)) ∈ BIG := big_in4 51 _ rfl rfl
theorem bw_772 : (Cond.methodLink "SweetWrapsLaw" (36 : Nat) ({ cls := "SweetWrapsModel", name := "ship", desc := "(I)I" } : MethodName)) ∈ BIG := big_in4 52 _ rfl rfl
theorem bw_773 : (Cond.instanceMethod ({ cls := "SweetWrapsModel", name := "ship", desc := "(I)I" } : MethodName)) ∈ BIG := big_in4 53 _ rfl rfl
theorem bw_774 : (Cond.selects "SweetWrapsModel" ({ cls := "SweetWrapsModel", name := "ship", desc := "(I)I" } : MethodName) ({ cls := "SweetWrapsModel", name := "ship", desc := "(I)I" } : MethodName)) ∈ BIG := big_in4 54 _ rfl rfl
theorem bw_775 : (Cond.code ({ cls := "SweetWrapsModel", name := "ship", desc := "(I)I" } : MethodName) prog_8_method_37_code (2 : Nat) (Option.some ClassFile.FieldType.int)) ∈ BIG := big_in4 55 _ rfl rfl
theorem bw_776 : (Cond.methodLink "SweetWrapsModel" (123 : Nat) ({ cls := "SweetWrapsModel", name := "ships", desc := "(I)I" } : MethodName)) ∈ BIG := big_in4 56 _ rfl rfl
theorem bw_778 : (Cond.instanceMethod ({ cls := "SweetWrapsModel", name := "ships", desc := "(I)I" } : MethodName)) ∈ BIG := big_in4 58 _ rfl rfl
theorem bw_779 : (Cond.code ({ cls := "SweetWrapsModel", name := "ships", desc := "(I)I" } : MethodName) prog_8_method_27_code (2 : Nat) (Option.some ClassFile.FieldType.int)) ∈ BIG := big_in4 59 _ rfl rfl
theorem bw_780 : (Cond.methodLink "SweetWrapsModel" (50 : Nat) ({ cls := "SweetWrapsModel", name := "isShipped", desc := "(I)Z" } : MethodName)) ∈ BIG := big_in4 60 _ rfl rfl
theorem bw_782 : (Cond.instanceMethod ({ cls := "SweetWrapsModel", name := "isShipped", desc := "(I)Z" } : MethodName)) ∈ BIG := big_in4 62 _ rfl rfl
theorem bw_783 : (Cond.code ({ cls := "SweetWrapsModel", name := "isShipped", desc := "(I)Z" } : MethodName) prog_8_method_15_code (2 : Nat) (Option.some ClassFile.FieldType.boolean)) ∈ BIG := big_in4 63 _ rfl rfl
theorem bw_784 : (Cond.methodLink "SweetWrapsModel" (54 : Nat) ({ cls := "SweetWrapsModel", name := "sweets", desc := "(I)I" } : MethodName)) ∈ BIG := big_in4 64 _ rfl rfl
theorem bw_786 : (Cond.instanceMethod ({ cls := "SweetWrapsModel", name := "sweets", desc := "(I)I" } : MethodName)) ∈ BIG := big_in4 66 _ rfl rfl
theorem bw_787 : (Cond.code ({ cls := "SweetWrapsModel", name := "sweets", desc := "(I)I" } : MethodName) prog_8_method_16_code (4 : Nat) (Option.some ClassFile.FieldType.int)) ∈ BIG := big_in4 67 _ rfl rfl
theorem bw_788 : (Cond.methodLink "SweetWrapsModel" (47 : Nat) ({ cls := "SweetWrapsModel", name := "inside", desc := "(II)I" } : MethodName)) ∈ BIG := big_in4 68 _ rfl rfl
theorem bw_790 : (Cond.instanceMethod ({ cls := "SweetWrapsModel", name := "inside", desc := "(II)I" } : MethodName)) ∈ BIG := big_in4 70 _ rfl rfl
theorem bw_791 : (Cond.code ({ cls := "SweetWrapsModel", name := "inside", desc := "(II)I" } : MethodName) prog_8_method_14_code (3 : Nat) (Option.some ClassFile.FieldType.int)) ∈ BIG := big_in4 71 _ rfl rfl
theorem bw_792 : (Cond.methodLink "SweetWrapsLaw" (40 : Nat) ({ cls := "SweetWrapsModel", name := "apart", desc := "(II)I" } : MethodName)) ∈ BIG := big_in4 72 _ rfl rfl
theorem bw_793 : (Cond.instanceMethod ({ cls := "SweetWrapsModel", name := "apart", desc := "(II)I" } : MethodName)) ∈ BIG := big_in4 73 _ rfl rfl
theorem bw_794 : (Cond.selects "SweetWrapsModel" ({ cls := "SweetWrapsModel", name := "apart", desc := "(II)I" } : MethodName) ({ cls := "SweetWrapsModel", name := "apart", desc := "(II)I" } : MethodName)) ∈ BIG := big_in4 74 _ rfl rfl
theorem bw_795 : (Cond.code ({ cls := "SweetWrapsModel", name := "apart", desc := "(II)I" } : MethodName) prog_8_method_38_code (3 : Nat) (Option.some ClassFile.FieldType.int)) ∈ BIG := big_in4 75 _ rfl rfl
theorem bw_796 : (Cond.methodLink "SweetWrapsModel" (126 : Nat) ({ cls := "SweetWrapsModel", name := "keepsApart", desc := "(II)I" } : MethodName)) ∈ BIG := big_in4 76 _ rfl rfl
theorem bw_798 : (Cond.instanceMethod ({ cls := "SweetWrapsModel", name := "keepsApart", desc := "(II)I" } : MethodName)) ∈ BIG := big_in4 78 _ rfl rfl
theorem bw_799 : (Cond.code ({ cls := "SweetWrapsModel", name := "keepsApart", desc := "(II)I" } : MethodName) prog_8_method_30_code (4 : Nat) (Option.some ClassFile.FieldType.int)) ∈ BIG := big_in4 79 _ rfl rfl
theorem bw_800 : (Cond.methodLink "SweetWrapsModel" (94 : Nat) ({ cls := "SweetWrapsModel", name := "areApart", desc := "(II)Z" } : MethodName)) ∈ BIG := big_in4 80 _ rfl rfl
theorem bw_802 : (Cond.instanceMethod ({ cls := "SweetWrapsModel", name := "areApart", desc := "(II)Z" } : MethodName)) ∈ BIG := big_in4 82 _ rfl rfl
theorem bw_803 : (Cond.code ({ cls := "SweetWrapsModel", name := "areApart", desc := "(II)Z" } : MethodName) prog_8_method_28_code (3 : Nat) (Option.some ClassFile.FieldType.boolean)) ∈ BIG := big_in4 83 _ rfl rfl
theorem bw_804 : (Cond.methodLink "SweetWrapsModel" (97 : Nat) ({ cls := "SweetWrapsModel", name := "turn", desc := "(II)V" } : MethodName)) ∈ BIG := big_in4 84 _ rfl rfl
theorem bw_806 : (Cond.instanceMethod ({ cls := "SweetWrapsModel", name := "turn", desc := "(II)V" } : MethodName)) ∈ BIG := big_in4 86 _ rfl rfl
theorem bw_807 : (Cond.code ({ cls := "SweetWrapsModel", name := "turn", desc := "(II)V" } : MethodName) prog_8_method_29_code (3 : Nat) (Option.none : Option ClassFile.FieldType)) ∈ BIG := big_in4 87 _ rfl rfl
theorem bw_808 : (Cond.methodLink "SweetWrapsLaw" (44 : Nat) ({ cls := "SweetWrapsModel", name := "run", desc := "(I)I" } : MethodName)) ∈ BIG := big_in4 88 _ rfl rfl
theorem bw_809 : (Cond.instanceMethod ({ cls := "SweetWrapsModel", name := "run", desc := "(I)I" } : MethodName)) ∈ BIG := big_in4 89 _ rfl rfl
theorem bw_810 : (Cond.selects "SweetWrapsModel" ({ cls := "SweetWrapsModel", name := "run", desc := "(I)I" } : MethodName) ({ cls := "SweetWrapsModel", name := "run", desc := "(I)I" } : MethodName)) ∈ BIG := big_in4 90 _ rfl rfl
theorem bw_811 : (Cond.code ({ cls := "SweetWrapsModel", name := "run", desc := "(I)I" } : MethodName) prog_8_method_39_code (2 : Nat) (Option.some ClassFile.FieldType.int)) ∈ BIG := big_in4 91 _ rfl rfl
theorem bw_812 : (Cond.methodLink "SweetWrapsModel" (129 : Nat) ({ cls := "SweetWrapsModel", name := "goes", desc := "(I)I" } : MethodName)) ∈ BIG := big_in4 92 _ rfl rfl
theorem bw_814 : (Cond.instanceMethod ({ cls := "SweetWrapsModel", name := "goes", desc := "(I)I" } : MethodName)) ∈ BIG := big_in4 94 _ rfl rfl
theorem bw_815 : (Cond.code ({ cls := "SweetWrapsModel", name := "goes", desc := "(I)I" } : MethodName) prog_8_method_31_code (2 : Nat) (Option.some ClassFile.FieldType.int)) ∈ BIG := big_in4 95 _ rfl rfl
theorem bw_816 : (Cond.methodLink "SweetWrapsModel" (101 : Nat) ({ cls := "SweetWrapsModel", name := "runs", desc := "(I)I" } : MethodName)) ∈ BIG := big_in4 96 _ rfl rfl
theorem bw_818 : (Cond.instanceMethod ({ cls := "SweetWrapsModel", name := "runs", desc := "(I)I" } : MethodName)) ∈ BIG := big_in4 98 _ rfl rfl
theorem bw_819 : (Cond.code ({ cls := "SweetWrapsModel", name := "runs", desc := "(I)I" } : MethodName) prog_8_method_23_code (4 : Nat) (Option.some ClassFile.FieldType.int)) ∈ BIG := big_in4 99 _ rfl rfl
theorem bw_820 : (Cond.methodLink "SweetWrapsModel" (81 : Nat) ({ cls := "SweetWrapsModel", name := "tick", desc := "()I" } : MethodName)) ∈ BIG := big_in4 100 _ rfl rfl
theorem bw_822 : (Cond.instanceMethod ({ cls := "SweetWrapsModel", name := "tick", desc := "()I" } : MethodName)) ∈ BIG := big_in4 102 _ rfl rfl
theorem bw_823 : (Cond.code ({ cls := "SweetWrapsModel", name := "tick", desc := "()I" } : MethodName) prog_8_method_22_code (4 : Nat) (Option.some ClassFile.FieldType.int)) ∈ BIG := big_in4 103 _ rfl rfl
theorem bw_824 : (Cond.methodLink "SweetWrapsModel" (75 : Nat) ({ cls := "SweetWrapsModel", name := "reason", desc := "(I)I" } : MethodName)) ∈ BIG := big_in4 104 _ rfl rfl
theorem bw_826 : (Cond.instanceMethod ({ cls := "SweetWrapsModel", name := "reason", desc := "(I)I" } : MethodName)) ∈ BIG := big_in4 106 _ rfl rfl
theorem bw_827 : (Cond.code ({ cls := "SweetWrapsModel", name := "reason", desc := "(I)I" } : MethodName) prog_8_method_20_code (2 : Nat) (Option.some ClassFile.FieldType.int)) ∈ BIG := big_in4 107 _ rfl rfl
theorem bw_828 : (Cond.methodLink "SweetWrapsModel" (68 : Nat) ({ cls := "SweetWrapsModel", name := "tinFor", desc := "(I)I" } : MethodName)) ∈ BIG := big_in4 108 _ rfl rfl
theorem bw_830 : (Cond.instanceMethod ({ cls := "SweetWrapsModel", name := "tinFor", desc := "(I)I" } : MethodName)) ∈ BIG := big_in4 110 _ rfl rfl
theorem bw_831 : (Cond.code ({ cls := "SweetWrapsModel", name := "tinFor", desc := "(I)I" } : MethodName) prog_8_method_19_code (3 : Nat) (Option.some ClassFile.FieldType.int)) ∈ BIG := big_in4 111 _ rfl rfl
theorem bw_832 : (Cond.methodLink "SweetWrapsModel" (61 : Nat) ({ cls := "SweetWrapsModel", name := "takes", desc := "(II)Z" } : MethodName)) ∈ BIG := big_in4 112 _ rfl rfl
theorem bw_834 : (Cond.instanceMethod ({ cls := "SweetWrapsModel", name := "takes", desc := "(II)Z" } : MethodName)) ∈ BIG := big_in4 114 _ rfl rfl
theorem bw_835 : (Cond.code ({ cls := "SweetWrapsModel", name := "takes", desc := "(II)Z" } : MethodName) prog_8_method_18_code (3 : Nat) (Option.some ClassFile.FieldType.boolean)) ∈ BIG := big_in4 115 _ rfl rfl
theorem bw_836 : (Cond.methodLink "SweetWrapsModel" (58 : Nat) ({ cls := "SweetWrapsModel", name := "flavoursOf", desc := "(I)I" } : MethodName)) ∈ BIG := big_in4 116 _ rfl rfl
theorem bw_838 : (Cond.instanceMethod ({ cls := "SweetWrapsModel", name := "flavoursOf", desc := "(I)I" } : MethodName)) ∈ BIG := big_in4 118 _ rfl rfl
theorem bw_839 : (Cond.code ({ cls := "SweetWrapsModel", name := "flavoursOf", desc := "(I)I" } : MethodName) prog_8_method_17_code (4 : Nat) (Option.some ClassFile.FieldType.int)) ∈ BIG := big_in4 119 _ rfl rfl
theorem bw_840 : (Cond.methodLink "SweetWrapsModel" (78 : Nat) ({ cls := "SweetWrapsModel", name := "tryOnce", desc := "(I)I" } : MethodName)) ∈ BIG := big_in4 120 _ rfl rfl
theorem bw_842 : (Cond.instanceMethod ({ cls := "SweetWrapsModel", name := "tryOnce", desc := "(I)I" } : MethodName)) ∈ BIG := big_in4 122 _ rfl rfl
theorem bw_843 : (Cond.code ({ cls := "SweetWrapsModel", name := "tryOnce", desc := "(I)I" } : MethodName) prog_8_method_21_code (7 : Nat) (Option.some ClassFile.FieldType.int)) ∈ BIG := big_in4 123 _ rfl rfl
theorem bw_844 : (Cond.methodLink "SweetWrapsModel" (71 : Nat) ({ cls := "SweetWrapsModel", name := "takeSweet", desc := "(I)V" } : MethodName)) ∈ BIG := big_in4 124 _ rfl rfl
theorem bw_846 : (Cond.instanceMethod ({ cls := "SweetWrapsModel", name := "takeSweet", desc := "(I)V" } : MethodName)) ∈ BIG := big_in4 126 _ rfl rfl
theorem bw_847 : (Cond.code ({ cls := "SweetWrapsModel", name := "takeSweet", desc := "(I)V" } : MethodName) prog_8_method_13_code (4 : Nat) (Option.none : Option ClassFile.FieldType)) ∈ BIG := big_in4 127 _ rfl rfl
theorem bw_848 : (Cond.methodLink "SweetWrapsLaw" (48 : Nat) ({ cls := "SweetWrapsModel", name := "of", desc := "(II)I" } : MethodName)) ∈ BIG := big_in4 128 _ rfl rfl
theorem bw_849 : (Cond.instanceMethod ({ cls := "SweetWrapsModel", name := "of", desc := "(II)I" } : MethodName)) ∈ BIG := big_in4 129 _ rfl rfl
theorem bw_850 : (Cond.selects "SweetWrapsModel" ({ cls := "SweetWrapsModel", name := "of", desc := "(II)I" } : MethodName) ({ cls := "SweetWrapsModel", name := "of", desc := "(II)I" } : MethodName)) ∈ BIG := big_in4 130 _ rfl rfl
theorem bw_851 : (Cond.code ({ cls := "SweetWrapsModel", name := "of", desc := "(II)I" } : MethodName) prog_8_method_40_code (3 : Nat) (Option.some ClassFile.FieldType.int)) ∈ BIG := big_in4 131 _ rfl rfl
theorem bw_852 : (Cond.methodLink "SweetWrapsLaw" (52 : Nat) ({ cls := "SweetWrapsModel", name := "ofHeap", desc := "(III)I" } : MethodName)) ∈ BIG := big_in4 132 _ rfl rfl
theorem bw_853 : (Cond.instanceMethod ({ cls := "SweetWrapsModel", name := "ofHeap", desc := "(III)I" } : MethodName)) ∈ BIG := big_in4 133 _ rfl rfl
theorem bw_854 : (Cond.selects "SweetWrapsModel" ({ cls := "SweetWrapsModel", name := "ofHeap", desc := "(III)I" } : MethodName) ({ cls := "SweetWrapsModel", name := "ofHeap", desc := "(III)I" } : MethodName)) ∈ BIG := big_in4 134 _ rfl rfl
theorem bw_855 : (Cond.code ({ cls := "SweetWrapsModel", name := "ofHeap", desc := "(III)I" } : MethodName) prog_8_method_41_code (4 : Nat) (Option.some ClassFile.FieldType.int)) ∈ BIG := big_in4 135 _ rfl rfl
theorem bw_856 : (Cond.methodLink "SweetWrapsLaw" (56 : Nat) ({ cls := "SweetWrapsModel", name := "ofTin", desc := "(II)I" } : MethodName)) ∈ BIG := big_in4 136 _ rfl rfl
theorem bw_857 : (Cond.instanceMethod ({ cls := "SweetWrapsModel", name := "ofTin", desc := "(II)I" } : MethodName)) ∈ BIG := big_in4 137 _ rfl rfl
theorem bw_858 : (Cond.selects "SweetWrapsModel" ({ cls := "SweetWrapsModel", name := "ofTin", desc := "(II)I" } : MethodName) ({ cls := "SweetWrapsModel", name := "ofTin", desc := "(II)I" } : MethodName)) ∈ BIG := big_in4 138 _ rfl rfl
theorem bw_859 : (Cond.code ({ cls := "SweetWrapsModel", name := "ofTin", desc := "(II)I" } : MethodName) prog_8_method_43_code (3 : Nat) (Option.some ClassFile.FieldType.int)) ∈ BIG := big_in4 139 _ rfl rfl
theorem bw_860 : (Cond.methodLink "SweetWrapsModel" (132 : Nat) ({ cls := "SweetWrapsModel", name := "taken", desc := "(I)I" } : MethodName)) ∈ BIG := big_in4 140 _ rfl rfl
theorem bw_862 : (Cond.instanceMethod ({ cls := "SweetWrapsModel", name := "taken", desc := "(I)I" } : MethodName)) ∈ BIG := big_in4 142 _ rfl rfl
theorem bw_863 : (Cond.code ({ cls := "SweetWrapsModel", name := "taken", desc := "(I)I" } : MethodName) prog_8_method_42_code (4 : Nat) (Option.some ClassFile.FieldType.int)) ∈ BIG := big_in4 143 _ rfl rfl
theorem bw_864 : (Cond.methodLink "SweetWrapsLaw" (60 : Nat) ({ cls := "SweetWrapsModel", name := "inTin", desc := "(II)I" } : MethodName)) ∈ BIG := big_in4 144 _ rfl rfl
theorem bw_865 : (Cond.instanceMethod ({ cls := "SweetWrapsModel", name := "inTin", desc := "(II)I" } : MethodName)) ∈ BIG := big_in4 145 _ rfl rfl
theorem bw_866 : (Cond.selects "SweetWrapsModel" ({ cls := "SweetWrapsModel", name := "inTin", desc := "(II)I" } : MethodName) ({ cls := "SweetWrapsModel", name := "inTin", desc := "(II)I" } : MethodName)) ∈ BIG := big_in4 146 _ rfl rfl
theorem bw_867 : (Cond.code ({ cls := "SweetWrapsModel", name := "inTin", desc := "(II)I" } : MethodName) prog_8_method_44_code (3 : Nat) (Option.some ClassFile.FieldType.int)) ∈ BIG := big_in4 147 _ rfl rfl
theorem bw_868 : (Cond.methodLink "SweetWrapsLaw" (64 : Nat) ({ cls := "SweetWrapsModel", name := "flavour", desc := "(II)I" } : MethodName)) ∈ BIG := big_in4 148 _ rfl rfl
theorem bw_869 : (Cond.instanceMethod ({ cls := "SweetWrapsModel", name := "flavour", desc := "(II)I" } : MethodName)) ∈ BIG := big_in4 149 _ rfl rfl
theorem bw_870 : (Cond.selects "SweetWrapsModel" ({ cls := "SweetWrapsModel", name := "flavour", desc := "(II)I" } : MethodName) ({ cls := "SweetWrapsModel", name := "flavour", desc := "(II)I" } : MethodName)) ∈ BIG := big_in4 150 _ rfl rfl
theorem bw_871 : (Cond.code ({ cls := "SweetWrapsModel", name := "flavour", desc := "(II)I" } : MethodName) prog_8_method_47_code (3 : Nat) (Option.some ClassFile.FieldType.int)) ∈ BIG := big_in4 151 _ rfl rfl
theorem bw_872 : (Cond.methodLink "SweetWrapsModel" (135 : Nat) ({ cls := "SweetWrapsModel", name := "inHoppers", desc := "(I)I" } : MethodName)) ∈ BIG := big_in4 152 _ rfl rfl
theorem bw_874 : (Cond.instanceMethod ({ cls := "SweetWrapsModel", name := "inHoppers", desc := "(I)I" } : MethodName)) ∈ BIG := big_in4 154 _ rfl rfl
theorem bw_875 : (Cond.code ({ cls := "SweetWrapsModel", name := "inHoppers", desc := "(I)I" } : MethodName) prog_8_method_45_code (5 : Nat) (Option.some ClassFile.FieldType.int)) ∈ BIG := big_in4 155 _ rfl rfl
theorem bw_876 : (Cond.methodLink "SweetWrapsModel" (138 : Nat) ({ cls := "SweetWrapsModel", name := "inTins", desc := "(II)I" } : MethodName)) ∈ BIG := big_in4 156 _ rfl rfl
theorem bw_878 : (Cond.instanceMethod ({ cls := "SweetWrapsModel", name := "inTins", desc := "(II)I" } : MethodName)) ∈ BIG := big_in4 158 _ rfl rfl
theorem bw_879 : (Cond.code ({ cls := "SweetWrapsModel", name := "inTins", desc := "(II)I" } : MethodName) prog_8_method_46_code (5 : Nat) (Option.some ClassFile.FieldType.int)) ∈ BIG := big_in4 159 _ rfl rfl
theorem bw_880 : (Cond.methodLink "SweetWrapsLaw" (68 : Nat) ({ cls := "SweetWrapsModel", name := "byRoom", desc := "(I)I" } : MethodName)) ∈ BIG := big_in4 160 _ rfl rfl
theorem bw_881 : (Cond.instanceMethod ({ cls := "SweetWrapsModel", name := "byRoom", desc := "(I)I" } : MethodName)) ∈ BIG := big_in4 161 _ rfl rfl
theorem bw_882 : (Cond.selects "SweetWrapsModel" ({ cls := "SweetWrapsModel", name := "byRoom", desc := "(I)I" } : MethodName) ({ cls := "SweetWrapsModel", name := "byRoom", desc := "(I)I" } : MethodName)) ∈ BIG := big_in4 162 _ rfl rfl
theorem bw_883 : (Cond.code ({ cls := "SweetWrapsModel", name := "byRoom", desc := "(I)I" } : MethodName) prog_8_method_48_code (6 : Nat) (Option.some ClassFile.FieldType.int)) ∈ BIG := big_in4 163 _ rfl rfl
theorem bw_884 : (Cond.methodLink "SweetWrapsLaw" (72 : Nat) ({ cls := "SweetWrapsModel", name := "byCount", desc := "(I)I" } : MethodName)) ∈ BIG := big_in4 164 _ rfl rfl
theorem bw_885 : (Cond.instanceMethod ({ cls := "SweetWrapsModel", name := "byCount", desc := "(I)I" } : MethodName)) ∈ BIG := big_in4 165 _ rfl rfl
theorem bw_886 : (Cond.selects "SweetWrapsModel" ({ cls := "SweetWrapsModel", name := "byCount", desc := "(I)I" } : MethodName) ({ cls := "SweetWrapsModel", name := "byCount", desc := "(I)I" } : MethodName)) ∈ BIG := big_in4 166 _ rfl rfl
theorem bw_887 : (Cond.code ({ cls := "SweetWrapsModel", name := "byCount", desc := "(I)I" } : MethodName) prog_8_method_50_code (5 : Nat) (Option.some ClassFile.FieldType.int)) ∈ BIG := big_in4 167 _ rfl rfl
theorem bw_888 : (Cond.methodLink "SweetWrapsModel" (141 : Nat) ({ cls := "SweetWrapsModel", name := "inAll", desc := "(I)I" } : MethodName)) ∈ BIG := big_in4 168 _ rfl rfl
theorem bw_890 : (Cond.instanceMethod ({ cls := "SweetWrapsModel", name := "inAll", desc := "(I)I" } : MethodName)) ∈ BIG := big_in4 170 _ rfl rfl
theorem bw_891 : (Cond.code ({ cls := "SweetWrapsModel", name := "inAll", desc := "(I)I" } : MethodName) prog_8_method_49_code (2 : Nat) (Option.some ClassFile.FieldType.int)) ∈ BIG := big_in4 171 _ rfl rfl
theorem bw_892 : (Cond.methodLink "SweetWrapsLaw" (76 : Nat) ({ cls := "SweetWrapsModel", name := "count", desc := "(I)I" } : MethodName)) ∈ BIG := big_in4 172 _ rfl rfl
theorem bw_893 : (Cond.instanceMethod ({ cls := "SweetWrapsModel", name := "count", desc := "(I)I" } : MethodName)) ∈ BIG := big_in4 173 _ rfl rfl
theorem bw_894 : (Cond.selects "SweetWrapsModel" ({ cls := "SweetWrapsModel", name := "count", desc := "(I)I" } : MethodName) ({ cls := "SweetWrapsModel", name := "count", desc := "(I)I" } : MethodName)) ∈ BIG := big_in4 174 _ rfl rfl
theorem bw_895 : (Cond.code ({ cls := "SweetWrapsModel", name := "count", desc := "(I)I" } : MethodName) prog_8_method_55_code (2 : Nat) (Option.some ClassFile.FieldType.int)) ∈ BIG := big_in4 175 _ rfl rfl
theorem bw_896 : (Cond.methodLink "SweetWrapsModel" (144 : Nat) ({ cls := "SweetWrapsModel", name := "tinSet", desc := "(I)I" } : MethodName)) ∈ BIG := big_in4 176 _ rfl rfl
theorem bw_898 : (Cond.instanceMethod ({ cls := "SweetWrapsModel", name := "tinSet", desc := "(I)I" } : MethodName)) ∈ BIG := big_in4 178 _ rfl rfl
theorem bw_899 : (Cond.code ({ cls := "SweetWrapsModel", name := "tinSet", desc := "(I)I" } : MethodName) prog_8_method_51_code (4 : Nat) (Option.some ClassFile.FieldType.int)) ∈ BIG := big_in4 179 _ rfl rfl
theorem bw_900 : (Cond.methodLink "SweetWrapsModel" (147 : Nat) ({ cls := "SweetWrapsModel", name := "lanes", desc := "(I)I" } : MethodName)) ∈ BIG := big_in4 180 _ rfl rfl
theorem bw_902 : (Cond.instanceMethod ({ cls := "SweetWrapsModel", name := "lanes", desc := "(I)I" } : MethodName)) ∈ BIG := big_in4 182 _ rfl rfl
theorem bw_903 : (Cond.code ({ cls := "SweetWrapsModel", name := "lanes", desc := "(I)I" } : MethodName) prog_8_method_52_code (4 : Nat) (Option.some ClassFile.FieldType.int)) ∈ BIG := big_in4 183 _ rfl rfl
theorem bw_904 : (Cond.methodLink "SweetWrapsModel" (150 : Nat) ({ cls := "SweetWrapsModel", name := "shippedSweets", desc := "()I" } : MethodName)) ∈ BIG := big_in4 184 _ rfl rfl
theorem bw_906 : (Cond.instanceMethod ({ cls := "SweetWrapsModel", name := "shippedSweets", desc := "()I" } : MethodName)) ∈ BIG := big_in4 186 _ rfl rfl
theorem bw_907 : (Cond.code ({ cls := "SweetWrapsModel", name := "shippedSweets", desc := "()I" } : MethodName) prog_8_method_53_code (3 : Nat) (Option.some ClassFile.FieldType.int)) ∈ BIG := big_in4 187 _ rfl rfl
theorem bw_908 : (Cond.methodLink "SweetWrapsModel" (153 : Nat) ({ cls := "SweetWrapsModel", name := "failing", desc := "()I" } : MethodName)) ∈ BIG := big_in4 188 _ rfl rfl
theorem bw_910 : (Cond.instanceMethod ({ cls := "SweetWrapsModel", name := "failing", desc := "()I" } : MethodName)) ∈ BIG := big_in4 190 _ rfl rfl
theorem bw_911 : (Cond.code ({ cls := "SweetWrapsModel", name := "failing", desc := "()I" } : MethodName) prog_8_method_54_code (3 : Nat) (Option.some ClassFile.FieldType.int)) ∈ BIG := big_in4 191 _ rfl rfl
theorem bw_912 : (Cond.methodLink "SweetWrapsLaw" (80 : Nat) ({ cls := "SweetWrapsModel", name := "stands", desc := "(II)I" } : MethodName)) ∈ BIG := big_in4 192 _ rfl rfl
theorem bw_913 : (Cond.instanceMethod ({ cls := "SweetWrapsModel", name := "stands", desc := "(II)I" } : MethodName)) ∈ BIG := big_in4 193 _ rfl rfl
theorem bw_914 : (Cond.selects "SweetWrapsModel" ({ cls := "SweetWrapsModel", name := "stands", desc := "(II)I" } : MethodName) ({ cls := "SweetWrapsModel", name := "stands", desc := "(II)I" } : MethodName)) ∈ BIG := big_in4 194 _ rfl rfl
theorem bw_915 : (Cond.code ({ cls := "SweetWrapsModel", name := "stands", desc := "(II)I" } : MethodName) prog_8_method_56_code (6 : Nat) (Option.some ClassFile.FieldType.int)) ∈ BIG := big_in4 195 _ rfl rfl
theorem bw_916 : (Cond.methodLink "SweetWrapsModel" (159 : Nat) ({ cls := "SweetWrapsModel", name := "putBack", desc := "()V" } : MethodName)) ∈ BIG := big_in4 196 _ rfl rfl
theorem bw_918 : (Cond.instanceMethod ({ cls := "SweetWrapsModel", name := "putBack", desc := "()V" } : MethodName)) ∈ BIG := big_in4 198 _ rfl rfl
theorem bw_919 : (Cond.code ({ cls := "SweetWrapsModel", name := "putBack", desc := "()V" } : MethodName) prog_8_method_5_code (2 : Nat) (Option.none : Option ClassFile.FieldType)) ∈ BIG := big_in4 199 _ rfl rfl
theorem bw_920 : (Cond.methodLink "SweetWrapsLaw" (84 : Nat) ({ cls := "SweetWrapsModel", name := "bestSpeed", desc := "(II)I" } : MethodName)) ∈ BIG := big_in4 200 _ rfl rfl
theorem bw_921 : (Cond.instanceMethod ({ cls := "SweetWrapsModel", name := "bestSpeed", desc := "(II)I" } : MethodName)) ∈ BIG := big_in4 201 _ rfl rfl
theorem bw_922 : (Cond.selects "SweetWrapsModel" ({ cls := "SweetWrapsModel", name := "bestSpeed", desc := "(II)I" } : MethodName) ({ cls := "SweetWrapsModel", name := "bestSpeed", desc := "(II)I" } : MethodName)) ∈ BIG := big_in4 202 _ rfl rfl
theorem bw_923 : (Cond.code ({ cls := "SweetWrapsModel", name := "bestSpeed", desc := "(II)I" } : MethodName) prog_8_method_57_code (7 : Nat) (Option.some ClassFile.FieldType.int)) ∈ BIG := big_in4 203 _ rfl rfl
theorem bw_924 : (Cond.methodLink "SweetWrapsLaw" (88 : Nat) ({ cls := "SweetWrapsModel", name := "ifApart", desc := "(III)I" } : MethodName)) ∈ BIG := big_in4 204 _ rfl rfl
theorem bw_925 : (Cond.instanceMethod ({ cls := "SweetWrapsModel", name := "ifApart", desc := "(III)I" } : MethodName)) ∈ BIG := big_in4 205 _ rfl rfl
theorem bw_926 : (Cond.selects "SweetWrapsModel" ({ cls := "SweetWrapsModel", name := "ifApart", desc := "(III)I" } : MethodName) ({ cls := "SweetWrapsModel", name := "ifApart", desc := "(III)I" } : MethodName)) ∈ BIG := big_in4 206 _ rfl rfl
theorem bw_927 : (Cond.code ({ cls := "SweetWrapsModel", name := "ifApart", desc := "(III)I" } : MethodName) prog_8_method_58_code (5 : Nat) (Option.some ClassFile.FieldType.int)) ∈ BIG := big_in4 207 _ rfl rfl
theorem bw_928 : (Cond.methodLink "SweetWrapsLaw" (92 : Nat) ({ cls := "SweetWrapsModel", name := "tinsFor", desc := "()I" } : MethodName)) ∈ BIG := big_in4 208 _ rfl rfl
theorem bw_929 : (Cond.instanceMethod ({ cls := "SweetWrapsModel", name := "tinsFor", desc := "()I" } : MethodName)) ∈ BIG := big_in4 209 _ rfl rfl
theorem bw_930 : (Cond.selects "SweetWrapsModel" ({ cls := "SweetWrapsModel", name := "tinsFor", desc := "()I" } : MethodName) ({ cls := "SweetWrapsModel", name := "tinsFor", desc := "()I" } : MethodName)) ∈ BIG := big_in4 210 _ rfl rfl
theorem bw_931 : (Cond.code ({ cls := "SweetWrapsModel", name := "tinsFor", desc := "()I" } : MethodName) prog_8_method_59_code (3 : Nat) (Option.some ClassFile.FieldType.int)) ∈ BIG := big_in4 211 _ rfl rfl
theorem bw_932 : (Cond.methodLink "SweetWrapsLaw" (99 : Nat) ({ cls := "SweetWrapsModel", name := "put", desc := "(J)I" } : MethodName)) ∈ BIG := big_in4 212 _ rfl rfl
theorem bw_933 : (Cond.instanceMethod ({ cls := "SweetWrapsModel", name := "put", desc := "(J)I" } : MethodName)) ∈ BIG := big_in4 213 _ rfl rfl
theorem bw_934 : (Cond.selects "SweetWrapsModel" ({ cls := "SweetWrapsModel", name := "put", desc := "(J)I" } : MethodName) ({ cls := "SweetWrapsModel", name := "put", desc := "(J)I" } : MethodName)) ∈ BIG := big_in4 214 _ rfl rfl
theorem bw_935 : (Cond.code ({ cls := "SweetWrapsModel", name := "put", desc := "(J)I" } : MethodName) prog_8_method_61_code (5 : Nat) (Option.some ClassFile.FieldType.int)) ∈ BIG := big_in4 215 _ rfl rfl
theorem bw_936 : (Cond.methodLink "SweetWrapsModel" (164 : Nat) ({ cls := "SweetWrapsModel", name := "code", desc := "(JI)I" } : MethodName)) ∈ BIG := big_in4 216 _ rfl rfl
theorem bw_937 : (Cond.static ({ cls := "SweetWrapsModel", name := "code", desc := "(JI)I" } : MethodName)) ∈ BIG := big_in4 217 _ rfl rfl
theorem bw_938 : (Cond.code ({ cls := "SweetWrapsModel", name := "code", desc := "(JI)I" } : MethodName) prog_8_method_60_code (3 : Nat) (Option.some ClassFile.FieldType.int)) ∈ BIG := big_in4 218 _ rfl rfl
theorem bw_939 : (Cond.constantLong "SweetWrapsModel" (162 : Nat) (255 : Int64)) ∈ BIG := big_in4 219 _ rfl rfl
theorem bw_940 : (Cond.methodLink "SweetWrapsLaw" (103 : Nat) ({ cls := "SweetWrapsModel", name := "wipe", desc := "()I" } : MethodName)) ∈ BIG := big_in4 220 _ rfl rfl
theorem bw_941 : (Cond.instanceMethod ({ cls := "SweetWrapsModel", name := "wipe", desc := "()I" } : MethodName)) ∈ BIG := big_in4 221 _ rfl rfl
theorem bw_942 : (Cond.selects "SweetWrapsModel" ({ cls := "SweetWrapsModel", name := "wipe", desc := "()I" } : MethodName) ({ cls := "SweetWrapsModel", name := "wipe", desc := "()I" } : MethodName)) ∈ BIG := big_in4 222 _ rfl rfl
theorem bw_943 : (Cond.code ({ cls := "SweetWrapsModel", name := "wipe", desc := "()I" } : MethodName) prog_8_method_62_code (2 : Nat) (Option.some ClassFile.FieldType.int)) ∈ BIG := big_in4 223 _ rfl rfl
theorem bw_944 : (Cond.methodLink "SweetWrapsLaw" (107 : Nat) ({ cls := "SweetWrapsModel", name := "fault", desc := "()I" } : MethodName)) ∈ BIG := big_in4 224 _ rfl rfl
theorem bw_945 : (Cond.instanceMethod ({ cls := "SweetWrapsModel", name := "fault", desc := "()I" } : MethodName)) ∈ BIG := big_in4 225 _ rfl rfl
theorem bw_946 : (Cond.selects "SweetWrapsModel" ({ cls := "SweetWrapsModel", name := "fault", desc := "()I" } : MethodName) ({ cls := "SweetWrapsModel", name := "fault", desc := "()I" } : MethodName)) ∈ BIG := big_in4 226 _ rfl rfl
theorem bw_947 : (Cond.code ({ cls := "SweetWrapsModel", name := "fault", desc := "()I" } : MethodName) prog_8_method_68_code (2 : Nat) (Option.some ClassFile.FieldType.int)) ∈ BIG := big_in4 227 _ rfl rfl
theorem bw_948 : (Cond.methodLink "SweetWrapsModel" (188 : Nat) ({ cls := "SweetWrapsModel", name := "go", desc := "(Z)I" } : MethodName)) ∈ BIG := big_in4 228 _ rfl rfl
theorem bw_950 : (Cond.instanceMethod ({ cls := "SweetWrapsModel", name := "go", desc := "(Z)I" } : MethodName)) ∈ BIG := big_in4 230 _ rfl rfl
theorem bw_951 : (Cond.code ({ cls := "SweetWrapsModel", name := "go", desc := "(Z)I" } : MethodName) prog_8_method_67_code (5 : Nat) (Option.some ClassFile.FieldType.int)) ∈ BIG := big_in4 231 _ rfl rfl
theorem bw_952 : (Cond.methodLink "SweetWrapsModel" (184 : Nat) ({ cls := "SweetWrapsModel", name := "order", desc := "(Z)I" } : MethodName)) ∈ BIG := big_in4 232 _ rfl rfl
theorem bw_954 : (Cond.instanceMethod ({ cls := "SweetWrapsModel", name := "order", desc := "(Z)I" } : MethodName)) ∈ BIG := big_in4 234 _ rfl rfl
theorem bw_955 : (Cond.code ({ cls := "SweetWrapsModel", name := "order", desc := "(Z)I" } : MethodName) prog_8_method_66_code (7 : Nat) (Option.some ClassFile.FieldType.int)) ∈ BIG := big_in4 235 _ rfl rfl
theorem bw_956 : (Cond.methodLink "SweetWrapsModel" (178 : Nat) ({ cls := "SweetWrapsModel", name := "isNext", desc := "(I)Z" } : MethodName)) ∈ BIG := big_in4 236 _ rfl rfl
theorem bw_958 : (Cond.instanceMethod ({ cls := "SweetWrapsModel", name := "isNext", desc := "(I)Z" } : MethodName)) ∈ BIG := big_in4 238 _ rfl rfl
theorem bw_959 : (Cond.code ({ cls := "SweetWrapsModel", name := "isNext", desc := "(I)Z" } : MethodName) prog_8_method_65_code (2 : Nat) (Option.some ClassFile.FieldType.boolean)) ∈ BIG := big_in4 239 _ rfl rfl
theorem bw_960 : (Cond.methodLink "SweetWrapsModel" (175 : Nat) ({ cls := "SweetWrapsModel", name := "sign", desc := "(II)I" } : MethodName)) ∈ BIG := big_in5 0 _ rfl rfl
theorem bw_962 : (Cond.instanceMethod ({ cls := "SweetWrapsModel", name := "sign", desc := "(II)I" } : MethodName)) ∈ BIG := big_in5 2 _ rfl rfl
theorem bw_963 : (Cond.code ({ cls := "SweetWrapsModel", name := "sign", desc := "(II)I" } : MethodName) prog_8_method_63_code (4 : Nat) (Option.some ClassFile.FieldType.int)) ∈ BIG := big_in5 3 _ rfl rfl
theorem bw_964 : (Cond.methodLink "SweetWrapsModel" (181 : Nat) ({ cls := "SweetWrapsModel", name := "number", desc := "()I" } : MethodName)) ∈ BIG := big_in5 4 _ rfl rfl
theorem bw_966 : (Cond.instanceMethod ({ cls := "SweetWrapsModel", name := "number", desc := "()I" } : MethodName)) ∈ BIG := big_in5 6 _ rfl rfl
theorem bw_967 : (Cond.code ({ cls := "SweetWrapsModel", name := "number", desc := "()I" } : MethodName) prog_8_method_64_code (2 : Nat) (Option.some ClassFile.FieldType.int)) ∈ BIG := big_in5 7 _ rfl rfl
theorem bw_968 : (Cond.methodLink "SweetWrapsLaw" (111 : Nat) ({ cls := "SweetWrapsModel", name := "carryOut", desc := "()I" } : MethodName)) ∈ BIG := big_in5 8 _ rfl rfl
theorem bw_969 : (Cond.instanceMethod ({ cls := "SweetWrapsModel", name := "carryOut", desc := "()I" } : MethodName)) ∈ BIG := big_in5 9 _ rfl rfl
theorem bw_970 : (Cond.selects "SweetWrapsModel" ({ cls := "SweetWrapsModel", name := "carryOut", desc := "()I" } : MethodName) ({ cls := "SweetWrapsModel", name := "carryOut", desc := "()I" } : MethodName)) ∈ BIG := big_in5 10 _ rfl rfl
theorem bw_971 : (Cond.code ({ cls := "SweetWrapsModel", name := "carryOut", desc := "()I" } : MethodName) prog_8_method_69_code (3 : Nat) (Option.some ClassFile.FieldType.int)) ∈ BIG := big_in5 11 _ rfl rfl
theorem bw_972 : (Cond.methodLink "SweetWrapsLaw" (115 : Nat) ({ cls := "SweetWrapsModel", name := "undo", desc := "()I" } : MethodName)) ∈ BIG := big_in5 12 _ rfl rfl
theorem bw_973 : (Cond.instanceMethod ({ cls := "SweetWrapsModel", name := "undo", desc := "()I" } : MethodName)) ∈ BIG := big_in5 13 _ rfl rfl
theorem bw_974 : (Cond.selects "SweetWrapsModel" ({ cls := "SweetWrapsModel", name := "undo", desc := "()I" } : MethodName) ({ cls := "SweetWrapsModel", name := "undo", desc := "()I" } : MethodName)) ∈ BIG := big_in5 14 _ rfl rfl
theorem bw_975 : (Cond.code ({ cls := "SweetWrapsModel", name := "undo", desc := "()I" } : MethodName) prog_8_method_70_code (2 : Nat) (Option.some ClassFile.FieldType.int)) ∈ BIG := big_in5 15 _ rfl rfl
theorem bw_976 : (Cond.methodLink "SweetWrapsLaw" (119 : Nat) ({ cls := "SweetWrapsModel", name := "save", desc := "(I)I" } : MethodName)) ∈ BIG := big_in5 16 _ rfl rfl
theorem bw_977 : (Cond.instanceMethod ({ cls := "SweetWrapsModel", name := "save", desc := "(I)I" } : MethodName)) ∈ BIG := big_in5 17 _ rfl rfl
theorem bw_978 : (Cond.selects "SweetWrapsModel" ({ cls := "SweetWrapsModel", name := "save", desc := "(I)I" } : MethodName) ({ cls := "SweetWrapsModel", name := "save", desc := "(I)I" } : MethodName)) ∈ BIG := big_in5 18 _ rfl rfl
theorem bw_979 : (Cond.code ({ cls := "SweetWrapsModel", name := "save", desc := "(I)I" } : MethodName) prog_8_method_71_code (3 : Nat) (Option.some ClassFile.FieldType.int)) ∈ BIG := big_in5 19 _ rfl rfl
theorem bw_980 : (Cond.methodLink "SweetWrapsLaw" (123 : Nat) ({ cls := "SweetWrapsModel", name := "restore", desc := "(I)I" } : MethodName)) ∈ BIG := big_in5 20 _ rfl rfl
theorem bw_981 : (Cond.instanceMethod ({ cls := "SweetWrapsModel", name := "restore", desc := "(I)I" } : MethodName)) ∈ BIG := big_in5 21 _ rfl rfl
theorem bw_982 : (Cond.selects "SweetWrapsModel" ({ cls := "SweetWrapsModel", name := "restore", desc := "(I)I" } : MethodName) ({ cls := "SweetWrapsModel", name := "restore", desc := "(I)I" } : MethodName)) ∈ BIG := big_in5 22 _ rfl rfl
theorem bw_983 : (Cond.code ({ cls := "SweetWrapsModel", name := "restore", desc := "(I)I" } : MethodName) prog_8_method_72_code (3 : Nat) (Option.some ClassFile.FieldType.int)) ∈ BIG := big_in5 23 _ rfl rfl
theorem bw_984 : (Cond.constantLong "SweetWrapsLaw" (93 : Nat) (4294967295 : Int64)) ∈ BIG := big_in5 24 _ rfl rfl
theorem bw_985 : (Cond.fieldLink "java/lang/String" (9 : Nat) "java/lang/String" "value" "[B") ∈ BIG := big_in5 25 _ rfl rfl
theorem bw_986 : (Cond.fieldLink "java/lang/String" (15 : Nat) "java/lang/String" "coder" "B") ∈ BIG := big_in5 26 _ rfl rfl
theorem bs_0 : Cond.selects "SweetWraps$History" ({ cls := "SweetWraps$History", name := "dropOldest", desc := "()V" } : MethodName) ({ cls := "SweetWraps$History", name := "dropOldest", desc := "()V" } : MethodName) ∈ BIG := big_sel 0 _ rfl
theorem bs_1 : Cond.selects "SweetWraps$Machine" ({ cls := "SweetWraps$Machine", name := "isTin", desc := "(I)Z" } : MethodName) ({ cls := "SweetWraps$Machine", name := "isTin", desc := "(I)Z" } : MethodName) ∈ BIG := big_sel 1 _ rfl
theorem bs_2 : Cond.selects "SweetWraps$Machine" ({ cls := "SweetWraps$Machine", name := "isOpenTinWithBoth", desc := "(II)Z" } : MethodName) ({ cls := "SweetWraps$Machine", name := "isOpenTinWithBoth", desc := "(II)Z" } : MethodName) ∈ BIG := big_sel 2 _ rfl
theorem bs_3 : Cond.selects "SweetWraps$Machine" ({ cls := "SweetWraps$Machine", name := "isOpen", desc := "(I)Z" } : MethodName) ({ cls := "SweetWraps$Machine", name := "isOpen", desc := "(I)Z" } : MethodName) ∈ BIG := big_sel 3 _ rfl
theorem bs_4 : Cond.selects "SweetWraps$Machine" ({ cls := "SweetWraps$Machine", name := "workLane", desc := "(LSweetWraps$Lane;)I" } : MethodName) ({ cls := "SweetWraps$Machine", name := "workLane", desc := "(LSweetWraps$Lane;)I" } : MethodName) ∈ BIG := big_sel 4 _ rfl
theorem bs_5 : Cond.selects "SweetWraps$Machine" ({ cls := "SweetWraps$Machine", name := "foilOfPull", desc := "()I" } : MethodName) ({ cls := "SweetWraps$Machine", name := "foilOfPull", desc := "()I" } : MethodName) ∈ BIG := big_sel 5 _ rfl
theorem bs_6 : Cond.selects "SweetWraps$Machine" ({ cls := "SweetWraps$Machine", name := "pullsUntilTear", desc := "()I" } : MethodName) ({ cls := "SweetWraps$Machine", name := "pullsUntilTear", desc := "()I" } : MethodName) ∈ BIG := big_sel 6 _ rfl
theorem bs_7 : Cond.selects "SweetWraps$Machine" ({ cls := "SweetWraps$Machine", name := "tinFor", desc := "(I)I" } : MethodName) ({ cls := "SweetWraps$Machine", name := "tinFor", desc := "(I)I" } : MethodName) ∈ BIG := big_sel 7 _ rfl
theorem bs_8 : Cond.selects "SweetWraps$Machine" ({ cls := "SweetWraps$Machine", name := "reasonOf", desc := "(LSweetWraps$Lane;I)I" } : MethodName) ({ cls := "SweetWraps$Machine", name := "reasonOf", desc := "(LSweetWraps$Lane;I)I" } : MethodName) ∈ BIG := big_sel 8 _ rfl
theorem bs_9 : Cond.selects "SweetWraps$Machine" ({ cls := "SweetWraps$Machine", name := "reasonNow", desc := "(LSweetWraps$Lane;)I" } : MethodName) ({ cls := "SweetWraps$Machine", name := "reasonNow", desc := "(LSweetWraps$Lane;)I" } : MethodName) ∈ BIG := big_sel 9 _ rfl
theorem bs_10 : Cond.selects "SweetWraps$Machine" ({ cls := "SweetWraps$Machine", name := "flavoursTakenBy", desc := "(LSweetWraps$Tin;)I" } : MethodName) ({ cls := "SweetWraps$Machine", name := "flavoursTakenBy", desc := "(LSweetWraps$Tin;)I" } : MethodName) ∈ BIG := big_sel 10 _ rfl
theorem bs_11 : Cond.selects "SweetWraps$Machine" ({ cls := "SweetWraps$Machine", name := "sweetsInHoppers", desc := "(I)I" } : MethodName) ({ cls := "SweetWraps$Machine", name := "sweetsInHoppers", desc := "(I)I" } : MethodName) ∈ BIG := big_sel 11 _ rfl
theorem bs_12 : Cond.selects "SweetWraps$Machine" ({ cls := "SweetWraps$Machine", name := "sweetsInTins", desc := "(IZ)I" } : MethodName) ({ cls := "SweetWraps$Machine", name := "sweetsInTins", desc := "(IZ)I" } : MethodName) ∈ BIG := big_sel 12 _ rfl
theorem bs_13 : Cond.selects "SweetWraps$Machine" ({ cls := "SweetWraps$Machine", name := "openTinsAhead", desc := "(I)I" } : MethodName) ({ cls := "SweetWraps$Machine", name := "openTinsAhead", desc := "(I)I" } : MethodName) ∈ BIG := big_sel 13 _ rfl
theorem bs_14 : Cond.selects "SweetWraps$Machine" ({ cls := "SweetWraps$Machine", name := "sweetsInAllTins", desc := "(I)I" } : MethodName) ({ cls := "SweetWraps$Machine", name := "sweetsInAllTins", desc := "(I)I" } : MethodName) ∈ BIG := big_sel 14 _ rfl
theorem bs_15 : Cond.selects "SweetWraps$Machine" ({ cls := "SweetWraps$Machine", name := "flavoursAhead", desc := "(I)I" } : MethodName) ({ cls := "SweetWraps$Machine", name := "flavoursAhead", desc := "(I)I" } : MethodName) ∈ BIG := big_sel 15 _ rfl
theorem bs_16 : Cond.selects "SweetWraps$Machine" ({ cls := "SweetWraps$Machine", name := "tinsThatAre", desc := "(Z)I" } : MethodName) ({ cls := "SweetWraps$Machine", name := "tinsThatAre", desc := "(Z)I" } : MethodName) ∈ BIG := big_sel 16 _ rfl
theorem bs_17 : Cond.selects "SweetWraps$Machine" ({ cls := "SweetWraps$Machine", name := "overLanes", desc := "(I)I" } : MethodName) ({ cls := "SweetWraps$Machine", name := "overLanes", desc := "(I)I" } : MethodName) ∈ BIG := big_sel 17 _ rfl
theorem bs_18 : Cond.selects "SweetWraps$Machine" ({ cls := "SweetWraps$Machine", name := "sweetsShipped", desc := "()I" } : MethodName) ({ cls := "SweetWraps$Machine", name := "sweetsShipped", desc := "()I" } : MethodName) ∈ BIG := big_sel 18 _ rfl
theorem bs_19 : Cond.selects "SweetWraps$Machine" ({ cls := "SweetWraps$Machine", name := "standingLanes", desc := "()I" } : MethodName) ({ cls := "SweetWraps$Machine", name := "standingLanes", desc := "()I" } : MethodName) ∈ BIG := big_sel 19 _ rfl
theorem bs_20 : Cond.selects "SweetWraps$Pad" ({ cls := "SweetWraps$Pad", name := "signHere", desc := "()I" } : MethodName) ({ cls := "SweetWraps$Pad", name := "signHere", desc := "()I" } : MethodName) ∈ BIG := big_sel 20 _ rfl
theorem bs_21 : Cond.selects "SweetWraps$Pad" ({ cls := "SweetWraps$Pad", name := "readPart", desc := "(I)Z" } : MethodName) ({ cls := "SweetWraps$Pad", name := "readPart", desc := "(I)Z" } : MethodName) ∈ BIG := big_sel 21 _ rfl
theorem bs_22 : Cond.selects "SweetWraps$Pad" ({ cls := "SweetWraps$Pad", name := "readDigit", desc := "()Z" } : MethodName) ({ cls := "SweetWraps$Pad", name := "readDigit", desc := "()Z" } : MethodName) ∈ BIG := big_sel 22 _ rfl
theorem bs_23 : Cond.selects "SweetWraps$Pad" ({ cls := "SweetWraps$Pad", name := "isDigitHere", desc := "()Z" } : MethodName) ({ cls := "SweetWraps$Pad", name := "isDigitHere", desc := "()Z" } : MethodName) ∈ BIG := big_sel 23 _ rfl
theorem bs_24 : Cond.selects "SweetWraps$Pad" ({ cls := "SweetWraps$Pad", name := "keepValue", desc := "(I)V" } : MethodName) ({ cls := "SweetWraps$Pad", name := "keepValue", desc := "(I)V" } : MethodName) ∈ BIG := big_sel 24 _ rfl
theorem bs_25 : Cond.selects "SweetWraps$Pad" ({ cls := "SweetWraps$Pad", name := "readNumber", desc := "()Z" } : MethodName) ({ cls := "SweetWraps$Pad", name := "readNumber", desc := "()Z" } : MethodName) ∈ BIG := big_sel 25 _ rfl
theorem bs_26 : Cond.selects "SweetWraps" ({ cls := "SweetWraps", name := "carryOrder", desc := "()I" } : MethodName) ({ cls := "SweetWraps", name := "carryOrder", desc := "()I" } : MethodName) ∈ BIG := big_sel 26 _ rfl
theorem bs_27 : Cond.selects "SweetWrapsModel" ({ cls := "SweetWrapsModel", name := "record", desc := "()V" } : MethodName) ({ cls := "SweetWrapsModel", name := "record", desc := "()V" } : MethodName) ∈ BIG := big_sel 27 _ rfl
theorem bs_28 : Cond.selects "SweetWrapsModel" ({ cls := "SweetWrapsModel", name := "putAside", desc := "()V" } : MethodName) ({ cls := "SweetWrapsModel", name := "putAside", desc := "()V" } : MethodName) ∈ BIG := big_sel 28 _ rfl
theorem bs_29 : Cond.selects "SweetWrapsModel" ({ cls := "SweetWrapsModel", name := "heaps", desc := "(III)I" } : MethodName) ({ cls := "SweetWrapsModel", name := "heaps", desc := "(III)I" } : MethodName) ∈ BIG := big_sel 29 _ rfl
theorem bs_30 : Cond.selects "SweetWrapsModel" ({ cls := "SweetWrapsModel", name := "heapFlavour", desc := "(II)I" } : MethodName) ({ cls := "SweetWrapsModel", name := "heapFlavour", desc := "(II)I" } : MethodName) ∈ BIG := big_sel 30 _ rfl
theorem bs_31 : Cond.selects "SweetWrapsModel" ({ cls := "SweetWrapsModel", name := "lane", desc := "(II)I" } : MethodName) ({ cls := "SweetWrapsModel", name := "lane", desc := "(II)I" } : MethodName) ∈ BIG := big_sel 31 _ rfl
theorem bs_32 : Cond.selects "SweetWrapsModel" ({ cls := "SweetWrapsModel", name := "inHopper", desc := "(I)I" } : MethodName) ({ cls := "SweetWrapsModel", name := "inHopper", desc := "(I)I" } : MethodName) ∈ BIG := big_sel 32 _ rfl
theorem bs_33 : Cond.selects "SweetWrapsModel" ({ cls := "SweetWrapsModel", name := "heapMany", desc := "(II)I" } : MethodName) ({ cls := "SweetWrapsModel", name := "heapMany", desc := "(II)I" } : MethodName) ∈ BIG := big_sel 33 _ rfl
theorem bs_34 : Cond.selects "SweetWrapsModel" ({ cls := "SweetWrapsModel", name := "end", desc := "(I)I" } : MethodName) ({ cls := "SweetWrapsModel", name := "end", desc := "(I)I" } : MethodName) ∈ BIG := big_sel 34 _ rfl
theorem bs_35 : Cond.selects "SweetWrapsModel" ({ cls := "SweetWrapsModel", name := "foils", desc := "(II)I" } : MethodName) ({ cls := "SweetWrapsModel", name := "foils", desc := "(II)I" } : MethodName) ∈ BIG := big_sel 35 _ rfl
theorem bs_36 : Cond.selects "SweetWrapsModel" ({ cls := "SweetWrapsModel", name := "tins", desc := "()I" } : MethodName) ({ cls := "SweetWrapsModel", name := "tins", desc := "()I" } : MethodName) ∈ BIG := big_sel 36 _ rfl
theorem bs_37 : Cond.selects "SweetWrapsModel" ({ cls := "SweetWrapsModel", name := "ships", desc := "(I)I" } : MethodName) ({ cls := "SweetWrapsModel", name := "ships", desc := "(I)I" } : MethodName) ∈ BIG := big_sel 37 _ rfl
theorem bs_38 : Cond.selects "SweetWrapsModel" ({ cls := "SweetWrapsModel", name := "isShipped", desc := "(I)Z" } : MethodName) ({ cls := "SweetWrapsModel", name := "isShipped", desc := "(I)Z" } : MethodName) ∈ BIG := big_sel 38 _ rfl
theorem bs_39 : Cond.selects "SweetWrapsModel" ({ cls := "SweetWrapsModel", name := "sweets", desc := "(I)I" } : MethodName) ({ cls := "SweetWrapsModel", name := "sweets", desc := "(I)I" } : MethodName) ∈ BIG := big_sel 39 _ rfl
theorem bs_40 : Cond.selects "SweetWrapsModel" ({ cls := "SweetWrapsModel", name := "inside", desc := "(II)I" } : MethodName) ({ cls := "SweetWrapsModel", name := "inside", desc := "(II)I" } : MethodName) ∈ BIG := big_sel 40 _ rfl
theorem bs_41 : Cond.selects "SweetWrapsModel" ({ cls := "SweetWrapsModel", name := "keepsApart", desc := "(II)I" } : MethodName) ({ cls := "SweetWrapsModel", name := "keepsApart", desc := "(II)I" } : MethodName) ∈ BIG := big_sel 41 _ rfl
theorem bs_42 : Cond.selects "SweetWrapsModel" ({ cls := "SweetWrapsModel", name := "areApart", desc := "(II)Z" } : MethodName) ({ cls := "SweetWrapsModel", name := "areApart", desc := "(II)Z" } : MethodName) ∈ BIG := big_sel 42 _ rfl
theorem bs_43 : Cond.selects "SweetWrapsModel" ({ cls := "SweetWrapsModel", name := "turn", desc := "(II)V" } : MethodName) ({ cls := "SweetWrapsModel", name := "turn", desc := "(II)V" } : MethodName) ∈ BIG := big_sel 43 _ rfl
theorem bs_44 : Cond.selects "SweetWrapsModel" ({ cls := "SweetWrapsModel", name := "goes", desc := "(I)I" } : MethodName) ({ cls := "SweetWrapsModel", name := "goes", desc := "(I)I" } : MethodName) ∈ BIG := big_sel 44 _ rfl
theorem bs_45 : Cond.selects "SweetWrapsModel" ({ cls := "SweetWrapsModel", name := "runs", desc := "(I)I" } : MethodName) ({ cls := "SweetWrapsModel", name := "runs", desc := "(I)I" } : MethodName) ∈ BIG := big_sel 45 _ rfl
theorem bs_46 : Cond.selects "SweetWrapsModel" ({ cls := "SweetWrapsModel", name := "tick", desc := "()I" } : MethodName) ({ cls := "SweetWrapsModel", name := "tick", desc := "()I" } : MethodName) ∈ BIG := big_sel 46 _ rfl
theorem bs_47 : Cond.selects "SweetWrapsModel" ({ cls := "SweetWrapsModel", name := "reason", desc := "(I)I" } : MethodName) ({ cls := "SweetWrapsModel", name := "reason", desc := "(I)I" } : MethodName) ∈ BIG := big_sel 47 _ rfl
theorem bs_48 : Cond.selects "SweetWrapsModel" ({ cls := "SweetWrapsModel", name := "tinFor", desc := "(I)I" } : MethodName) ({ cls := "SweetWrapsModel", name := "tinFor", desc := "(I)I" } : MethodName) ∈ BIG := big_sel 48 _ rfl
theorem bs_49 : Cond.selects "SweetWrapsModel" ({ cls := "SweetWrapsModel", name := "takes", desc := "(II)Z" } : MethodName) ({ cls := "SweetWrapsModel", name := "takes", desc := "(II)Z" } : MethodName) ∈ BIG := big_sel 49 _ rfl
theorem bs_50 : Cond.selects "SweetWrapsModel" ({ cls := "SweetWrapsModel", name := "flavoursOf", desc := "(I)I" } : MethodName) ({ cls := "SweetWrapsModel", name := "flavoursOf", desc := "(I)I" } : MethodName) ∈ BIG := big_sel 50 _ rfl
theorem bs_51 : Cond.selects "SweetWrapsModel" ({ cls := "SweetWrapsModel", name := "tryOnce", desc := "(I)I" } : MethodName) ({ cls := "SweetWrapsModel", name := "tryOnce", desc := "(I)I" } : MethodName) ∈ BIG := big_sel 51 _ rfl
theorem bs_52 : Cond.selects "SweetWrapsModel" ({ cls := "SweetWrapsModel", name := "takeSweet", desc := "(I)V" } : MethodName) ({ cls := "SweetWrapsModel", name := "takeSweet", desc := "(I)V" } : MethodName) ∈ BIG := big_sel 52 _ rfl
theorem bs_53 : Cond.selects "SweetWrapsModel" ({ cls := "SweetWrapsModel", name := "taken", desc := "(I)I" } : MethodName) ({ cls := "SweetWrapsModel", name := "taken", desc := "(I)I" } : MethodName) ∈ BIG := big_sel 53 _ rfl
theorem bs_54 : Cond.selects "SweetWrapsModel" ({ cls := "SweetWrapsModel", name := "inHoppers", desc := "(I)I" } : MethodName) ({ cls := "SweetWrapsModel", name := "inHoppers", desc := "(I)I" } : MethodName) ∈ BIG := big_sel 54 _ rfl
theorem bs_55 : Cond.selects "SweetWrapsModel" ({ cls := "SweetWrapsModel", name := "inTins", desc := "(II)I" } : MethodName) ({ cls := "SweetWrapsModel", name := "inTins", desc := "(II)I" } : MethodName) ∈ BIG := big_sel 55 _ rfl
theorem bs_56 : Cond.selects "SweetWrapsModel" ({ cls := "SweetWrapsModel", name := "inAll", desc := "(I)I" } : MethodName) ({ cls := "SweetWrapsModel", name := "inAll", desc := "(I)I" } : MethodName) ∈ BIG := big_sel 56 _ rfl
theorem bs_57 : Cond.selects "SweetWrapsModel" ({ cls := "SweetWrapsModel", name := "tinSet", desc := "(I)I" } : MethodName) ({ cls := "SweetWrapsModel", name := "tinSet", desc := "(I)I" } : MethodName) ∈ BIG := big_sel 57 _ rfl
theorem bs_58 : Cond.selects "SweetWrapsModel" ({ cls := "SweetWrapsModel", name := "lanes", desc := "(I)I" } : MethodName) ({ cls := "SweetWrapsModel", name := "lanes", desc := "(I)I" } : MethodName) ∈ BIG := big_sel 58 _ rfl
theorem bs_59 : Cond.selects "SweetWrapsModel" ({ cls := "SweetWrapsModel", name := "shippedSweets", desc := "()I" } : MethodName) ({ cls := "SweetWrapsModel", name := "shippedSweets", desc := "()I" } : MethodName) ∈ BIG := big_sel 59 _ rfl
theorem bs_60 : Cond.selects "SweetWrapsModel" ({ cls := "SweetWrapsModel", name := "failing", desc := "()I" } : MethodName) ({ cls := "SweetWrapsModel", name := "failing", desc := "()I" } : MethodName) ∈ BIG := big_sel 60 _ rfl
theorem bs_61 : Cond.selects "SweetWrapsModel" ({ cls := "SweetWrapsModel", name := "putBack", desc := "()V" } : MethodName) ({ cls := "SweetWrapsModel", name := "putBack", desc := "()V" } : MethodName) ∈ BIG := big_sel 61 _ rfl
theorem bs_62 : Cond.selects "SweetWrapsModel" ({ cls := "SweetWrapsModel", name := "go", desc := "(Z)I" } : MethodName) ({ cls := "SweetWrapsModel", name := "go", desc := "(Z)I" } : MethodName) ∈ BIG := big_sel 62 _ rfl
theorem bs_63 : Cond.selects "SweetWrapsModel" ({ cls := "SweetWrapsModel", name := "order", desc := "(Z)I" } : MethodName) ({ cls := "SweetWrapsModel", name := "order", desc := "(Z)I" } : MethodName) ∈ BIG := big_sel 63 _ rfl
theorem bs_64 : Cond.selects "SweetWrapsModel" ({ cls := "SweetWrapsModel", name := "isNext", desc := "(I)Z" } : MethodName) ({ cls := "SweetWrapsModel", name := "isNext", desc := "(I)Z" } : MethodName) ∈ BIG := big_sel 64 _ rfl
theorem bs_65 : Cond.selects "SweetWrapsModel" ({ cls := "SweetWrapsModel", name := "sign", desc := "(II)I" } : MethodName) ({ cls := "SweetWrapsModel", name := "sign", desc := "(II)I" } : MethodName) ∈ BIG := big_sel 65 _ rfl
theorem bs_66 : Cond.selects "SweetWrapsModel" ({ cls := "SweetWrapsModel", name := "number", desc := "()I" } : MethodName) ({ cls := "SweetWrapsModel", name := "number", desc := "()I" } : MethodName) ∈ BIG := big_sel 66 _ rfl
end
section
/-! THE WORLD: every cell of the system and of the reference has a place (m, k, i): k its kind, m its machine (0 now, 1 trial, 2 to 8 the history's, 9 and 10 the slots'; 11 the system's other cells, 12 the reference), i its number. A state gives each cell a row of ints. -/
abbrev Sg : Type := Nat → Nat → Nat → Nat → Int32
/-- the launch's numbers: classes and slots; addresses; array classes; static arrays; Strings and their byte arrays -/
abbrev Ev : Type := va_G × (Nat → Nat → Nat → Nat) × (Nat → ClassId) × (Nat → Nat) × (Nat → Nat) × (Nat → Nat)
abbrev eD (E : Ev) : va_G := E.1
abbrev ad (E : Ev) (m k i : Nat) : Nat := E.2.1 m k i
abbrev eC (E : Ev) (k : Nat) : ClassId := E.2.2.1 k
abbrev eT (E : Ev) (k : Nat) : Nat := E.2.2.2.1 k
abbrev eK (E : Ev) : Nat → Nat := E.2.2.2.2.1
abbrev eV (E : Ev) : Nat → Nat := E.2.2.2.2.2
/-- the places -/
def ids1 (m : Nat) : List (Nat × Nat × Nat) := [(m, 0, 0), (m, 1, 0), (m, 2, 0), (m, 3, 0), (m, 4, 0)] ++ (List.range 4).flatMap (fun i => [(m, 5, i), (m, 6, i), (m, 7, i)]) ++ (List.range 16).flatMap (fun i => [(m, 8, i), (m, 9, i)])
def ids : List (Nat × Nat × Nat) := (List.range 11).flatMap ids1 ++ (List.range 8).map (fun k => (11, 10 + k, 0)) ++ (List.range 8).map (fun k => (12, 18 + k, 0))
abbrev okc (m k i : Nat) : Prop := (m, k, i) ∈ ids
theorem okc_1 {m k i : Nat} (hm : m < 11) (h : (m, k, i) ∈ ids1 m) : okc m k i := List.mem_append_left _ (List.mem_append_left _ (List.mem_flatMap.mpr ⟨m, List.mem_range.mpr hm, h⟩))
theorem ok0 {m : Nat} (hm : m < 11) : okc m 0 0 := okc_1 hm (by simp [ids1])
theorem ok1 {m : Nat} (hm : m < 11) : okc m 1 0 := okc_1 hm (by simp [ids1])
theorem ok2 {m : Nat} (hm : m < 11) : okc m 2 0 := okc_1 hm (by simp [ids1])
theorem ok3 {m : Nat} (hm : m < 11) : okc m 3 0 := okc_1 hm (by simp [ids1])
theorem ok4 {m : Nat} (hm : m < 11) : okc m 4 0 := okc_1 hm (by simp [ids1])
theorem ok5 {m i : Nat} (hm : m < 11) (hi : i < 4) : okc m 5 i := okc_1 hm (by simp [ids1]; omega)
theorem ok6 {m i : Nat} (hm : m < 11) (hi : i < 4) : okc m 6 i := okc_1 hm (by simp [ids1]; omega)
theorem ok7 {m i : Nat} (hm : m < 11) (hi : i < 4) : okc m 7 i := okc_1 hm (by simp [ids1]; omega)
theorem ok8 {m i : Nat} (hm : m < 11) (hi : i < 16) : okc m 8 i := okc_1 hm (by simp [ids1]; omega)
theorem ok9 {m i : Nat} (hm : m < 11) (hi : i < 16) : okc m 9 i := okc_1 hm (by simp [ids1]; omega)
theorem ok10 {k : Nat} (h : k < 8) : okc 11 (10 + k) 0 := List.mem_append_left _ (List.mem_append_right _ (List.mem_map.mpr ⟨k, List.mem_range.mpr h, rfl⟩))
theorem ok18 {k : Nat} (h : k < 8) : okc 12 (18 + k) 0 := List.mem_append_right _ (List.mem_map.mpr ⟨k, List.mem_range.mpr h, rfl⟩)
/-- what the cell at a place holds, by its row -/
def ce (E : Ev) (k m i : Nat) (f : Nat → Int32) : va_E := match k with
  | 0 => .inr (2, [.ref (ad E m 1 0), .ref (ad E m 2 0), .ref (ad E m 3 0), .ref (ad E m 4 0), .int (f 4), .int (f 5), .int (f 6), .int (f 7)])
  | 1 => .inl (eC E 0, 4, .inl f)
  | 2 => .inl (eC E 3, 4, .inr (.inr (.inr (.inr (fun j => some (ad E m 5 j))))))
  | 3 => .inl (eC E 4, 16, .inr (.inr (.inr (.inr (fun j => some (ad E m 8 j))))))
  | 4 => .inl (eC E 0, 6, .inl f)
  | 5 => .inr (1, [.ref (ad E m 6 i), .ref (ad E m 7 i), .int (f 2), .int (f 3), .int (f 4), .int (f 5), .int (f 6), .int (f 7)])
  | 6 => .inl (eC E 0, 6, .inl f)
  | 7 => .inl (eC E 0, 6, .inl f)
  | 8 => .inr (4, [.ref (ad E m 9 i), .int (f 1), .int (f 2), .int (f 3)])
  | 9 => .inl (eC E 0, 6, .inl f)
  | 10 => .inr (5, [.ref (ad E 0 0 0), .ref (ad E 1 0 0), .ref (ad E 11 11 0), .ref (ad E 11 13 0), .ref (ad E 11 14 0), .ref (ad E 11 15 0)])
  | 11 => .inr (0, [.ref (ad E 11 12 0), .ref (ad E (f 1).toNatClampNeg 0 0), .int (f 2)])
  | 12 => .inl (eC E 5, 6, .inr (.inr (.inr (.inr (fun j => some (ad E (f j).toNatClampNeg 0 0))))))
  | 13 => .inl (eC E 5, 2, .inr (.inr (.inr (.inr (fun j => some (ad E (9 + j) 0 0))))))
  | 14 => .inl (eC E 1, 2, .inl f)
  | 15 => .inr (3, [.ref (ad E 11 16 0), .ref (ad E 11 17 0), .int (f 2), .int (f 3), .int (f 4), .int (f 5)])
  | 16 => .inl (eC E 2, 80, .inl f)
  | 17 => .inl (eC E 0, 3, .inl f)
  | 18 => .inr (6, [.ref (ad E 12 19 0), .ref (ad E 12 20 0), .ref (ad E 12 21 0), .int (f 3), .ref (ad E 12 22 0), .ref (ad E 12 23 0), .ref (ad E 12 24 0), .int (f 7), .ref (ad E 12 25 0), .int (f 9), .int (f 10)])
  | 19 => .inl (eC E 0, 194, .inl f)
  | 20 => .inl (eC E 0, 194, .inl f)
  | 21 => .inl (eC E 0, 1164, .inl f)
  | 22 => .inl (eC E 0, 388, .inl f)
  | 23 => .inl (eC E 1, 2, .inl f)
  | 24 => .inl (eC E 0, 80, .inl f)
  | _ => .inl (eC E 0, 4, .inl f)
def wl (E : Ev) (σ : Sg) : va_W := ids.map (fun q => (ad E q.1 q.2.1 q.2.2, ce E q.2.1 q.1 q.2.2 (σ q.1 q.2.1 q.2.2)))
def WD (E : Ev) (σ : Sg) (H : Heap) : Prop := va_P (eD E) vwCl (wl E σ) H
def eA (E : Ev) : Nat → Prop := fun q => ∃ m k i, okc m k i ∧ q = ad E m k i
def Inj (E : Ev) : Prop := ∀ m k i m' k' i', okc m k i → okc m' k' i' → ad E m k i = ad E m' k' i' → (m, k, i) = (m', k', i')
def ua (σ : Sg) (m k i : Nat) (f : Nat → Int32) : Sg := fun a b c => if a = m ∧ b = k ∧ c = i then f else σ a b c
def up (σ : Sg) (m k i j : Nat) (x : Int32) : Sg := ua σ m k i (upd (σ m k i) j x)
def idc (q : Nat × Nat × Nat) : Nat := q.1 * 1000 + q.2.1 * 20 + q.2.2
theorem ids_nd : va_nd (ids.map idc) = true := by decide +kernel
theorem ids_inj {a b : Nat} {z : Nat × Nat × Nat} (h1 : ids[a]? = some z) (h2 : ids[b]? = some z) : a = b := va_nd_inj _ ids_nd a b (idc z) (by rw [List.getElem?_map, h1]; rfl) (by rw [List.getElem?_map, h2]; rfl)
theorem wl_at (E : Ev) (σ : Sg) {m k i : Nat} (h : okc m k i) : ∃ q : Nat, ids[q]? = some (m, k, i) ∧ (wl E σ)[q]? = some (ad E m k i, ce E k m i (σ m k i)) := by
  obtain ⟨q, hq⟩ := List.getElem?_of_mem h
  exact ⟨q, hq, by simp [wl, hq]⟩
theorem wl_D (E : Ev) (σ : Sg) (h : Inj E) : va_D (eA E) (wl E σ) := by
  have key : ∀ (n : Nat) (q : Nat × va_E), (wl E σ)[n]? = some q → ∃ m k i, ids[n]? = some (m, k, i) ∧ q.1 = ad E m k i := by
    intro n q hq
    unfold wl at hq
    rw [List.getElem?_map] at hq
    cases hn : ids[n]? with
    | none => rw [hn] at hq; cases hq
    | some z =>
      rw [hn] at hq
      obtain ⟨m, k, i⟩ := z
      exact ⟨m, k, i, rfl, by cases hq; rfl⟩
  refine ⟨fun a b p q ha hb hpq => ?_, fun n q hq => ?_⟩
  · obtain ⟨m, k, i, h1, h2⟩ := key a p ha
    obtain ⟨m', k', i', h3, h4⟩ := key b q hb
    have e := h m k i m' k' i' (List.mem_of_getElem? h1) (List.mem_of_getElem? h3) (by rw [← h2, ← h4]; exact hpq)
    rw [← e] at h3
    exact ids_inj h1 h3
  · obtain ⟨m, k, i, h1, h2⟩ := key n q hq
    exact ⟨m, k, i, List.mem_of_getElem? h1, h2⟩
theorem wl_set (E : Ev) (σ : Sg) {m k i q : Nat} (hq : ids[q]? = some (m, k, i)) (f : Nat → Int32) : (wl E σ).set q (ad E m k i, ce E k m i f) = wl E (ua σ m k i f) := by
  obtain ⟨l1, g1⟩ := List.getElem?_eq_some_iff.mp hq
  apply List.ext_getElem?
  intro n
  by_cases hn : n = q
  · subst hn
    rw [List.getElem?_set_self (by simpa [wl] using l1)]
    simp [wl, hq, ua]
  · rw [List.getElem?_set_ne (Ne.symm hn)]
    unfold wl
    rw [List.getElem?_map, List.getElem?_map]
    cases hz : ids[n]? with
    | none => rfl
    | some z =>
      obtain ⟨m', k', i'⟩ := z
      have hne : ¬ (m' = m ∧ k' = k ∧ i' = i) := by
        rintro ⟨rfl, rfl, rfl⟩
        exact hn (ids_inj hz hq)
      simp [ua, hne]
theorem WD.cell {E : Ev} {σ : Sg} {H : Heap} (h : WD E σ H) {m k i : Nat} (ok : okc m k i) {e : va_E} (he : ce E k m i (σ m k i) = e) : va_P (eD E) vwCl [(ad E m k i, e)] H := by
  obtain ⟨q, -, h2⟩ := wl_at E σ ok
  subst he
  intro n z hz
  cases n with
  | zero => cases hz; exact h q _ h2
  | succ n => cases hz
end
section
/-! THE JUDGEMENT: G X s lv st pc: from a heap that holds the world s, with locals lv and stack st at pc, the method X ends as it is due. What else a method rests on: EV. -/
def lst (j : Nat) : Int32 := ([1, 4, 1, 1] : List Int32).getD j 0
def mst (j : Nat) : Int32 := ([9, 60, 99, 2] : List Int32).getD j 0
def scI : List Nat := [79, 81, 83, 85, 87, 89, 91]
def scT : List String := ["hd.d*n", "fd+n", "t", "sn", "add", "rn", ""]
def scL : List Nat := [6, 4, 1, 2, 3, 2, 0]
def scB : List (List Int32) := [[104, 100, 46, 100, 42, 110], [102, 100, 43, 110], [116], [115, 110], [97, 100, 100], [114, 110], []]
def ety (E : Ev) : List (ClassId × FieldType) := [(eC E 0, .int), (eC E 1, .boolean), (eC E 2, .char), (eC E 3, .object RX1), (eC E 4, .object RX4), (eC E 5, .object RX2)]
def EV (E : Ev) (U : State) (H : Heap) : Prop :=
  va_K (eD E) vwCl (ety E) U ∧ Inj E ∧ (∀ a i y h, Cond.methodLinkNest a i y h ∈ tables_1 → va_Nw (Cond.methodLinkNest a i y h) U) ∧ (∀ a i b n d h, Cond.fieldLinkNest a i b n d h ∈ tables_1 → va_Nw (Cond.fieldLinkNest a i b n d h) U) ∧
  va_Z "SweetWraps" "LEAST_OF_SETTING" "[I" (.ref (eT E 0)) (eA E) U H ∧ va_T .int (eT E 0) 4 (fun j => .int (lst j)) (eA E) U H ∧ va_Z "SweetWraps" "MOST_OF_SETTING" "[I" (.ref (eT E 1)) (eA E) U H ∧ va_T .int (eT E 1) 4 (fun j => .int (mst j)) (eA E) U H ∧
  vk_S 7 scL scB (eK E) (eV E) (eA E) U H ∧ (∀ i, i < 7 → vk_R "SweetWraps$Pad" (scI.getD i 0) (scT.getD i "") (eK E i) U) ∧ va_Z "java/lang/String" "COMPACT_STRINGS" "Z" (.int 1) (eA E) U H ∧ va_Zq "jdk/internal/util/Preconditions" "SIOOBE_FORMATTER" "Ljava/util/function/BiFunction;" (eA E) U H
theorem EV.next {E : Ev} {s U : State} {H : Heap} {locs : List Loc} (h : EV E s s.heap) (hW : s.WarmedH U.vm) (hS : va_S (eA E) s.heap H locs) (hH : U.heap = H) : EV E U U.heap := by
  obtain ⟨h1, h2, h3, h4, h5, h6, h7, h8, h9, h10, h11, h12⟩ := h
  rw [hH]
  have a := hW.alike
  have k := hS.2.1
  exact ⟨va_K.moved a h1, h2, fun _ _ _ _ z => va_Nw.warmM hW (h3 _ _ _ _ z), fun _ _ _ _ _ _ z => va_Nw.warmF hW (h4 _ _ _ _ _ _ z), (va_Z.moved a h5).kept k, (va_T.moved a h6).kept k, (va_Z.moved a h7).kept k, (va_T.moved a h8).kept k, (vk_S.moved a h9).kept k, fun i hi => vk_R.warm hW (h10 i hi), (va_Z.moved a h11).kept k, (va_Zq.moved a h12).kept k⟩
theorem EV.same {E : Ev} {u U : State} (hv : U.vm = u.vm) (hh : U.heap = u.heap) (h : EV E u u.heap) : EV E U U.heap := by
  obtain ⟨h1, h2, h3, h4, h5, h6, h7, h8, h9, h10, h11, h12⟩ := h
  rw [hh]
  have a : u.vm.Alike U.vm := by rw [hv]; exact Vm.Alike.refl _
  exact ⟨va_K.moved a h1, h2, fun _ _ _ _ z => va_Nw.same rfl hv.symm (h3 _ _ _ _ z), fun _ _ _ _ _ _ z => va_Nw.same rfl hv.symm (h4 _ _ _ _ _ _ z), va_Z.moved a h5, va_T.moved a h6, va_Z.moved a h7, va_T.moved a h8, vk_S.moved a h9, fun i hi => vk_R.same hv (h10 i hi), va_Z.moved a h11, va_Zq.moved a h12⟩
abbrev Tx : Type := Program × Launch × Env × Room × State × MethodId × Array Value × List Frame × Method × Code × (State → Prop) × Ev × Nat
abbrev tP (X : Tx) : Program := X.1
abbrev tL (X : Tx) : Launch := X.2.1
abbrev te (X : Tx) : Env := X.2.2.1
abbrev tR (X : Tx) : Room := X.2.2.2.1
abbrev tS (X : Tx) : State := X.2.2.2.2.1
abbrev tM (X : Tx) : MethodId := X.2.2.2.2.2.1
abbrev tA (X : Tx) : Array Value := X.2.2.2.2.2.2.1
abbrev tB (X : Tx) : List Frame := X.2.2.2.2.2.2.2.1
abbrev tO (X : Tx) : Method := X.2.2.2.2.2.2.2.2.1
abbrev tC (X : Tx) : Code := X.2.2.2.2.2.2.2.2.2.1
abbrev tZ (X : Tx) : State → Prop := X.2.2.2.2.2.2.2.2.2.2.1
abbrev tE (X : Tx) : Ev := X.2.2.2.2.2.2.2.2.2.2.2.1
abbrev tN (X : Tx) : Nat := X.2.2.2.2.2.2.2.2.2.2.2.2
/-- with the heap named -/
abbrev GH (X : Tx) (H : Heap) (locs : List Loc) (ls : Array Slot) (st : List Value) (pc : Nat) : Prop := W (tP X) (tL X) (te X) (tR X) (tS X) (tM X) (tA X) (tB X) (tO X) (tC X) H locs 0 0 (tZ X) (F0 (tM X) pc ls st)
def G (X : Tx) (σ : Sg) (lv : List (Nat × Value)) (st : List Value) (pc : Nat) : Prop :=
  ∀ (H : Heap) (locs : List Loc) (ls : Array Slot), WD (tE X) σ H → va_S (eA (tE X)) (tS X).heap H locs → lv_has ls (tN X) lv → GH X H locs ls st pc
def Cx (X : Tx) (cc : ByteArray) (own : String) (ret : Option FieldType) (fr lo nL : Nat) (Qc : Array Value → State → Outcome → State → Prop) : Prop :=
  (tP X).tables.exec = Jvm.exec ∧ (tC X).code = cc ∧ (tO X).sig.returnType = ret ∧ (tC X).maxLocals = tN X ∧ (tS X).vm.findClass own = some (tM X).cls ∧ (tO X).locks = false ∧ (∀ w ∈ BIG, w.before (tA X) (tS X) = true) ∧ EV (tE X) (tS X) (tS X).heap ∧ tR X = { frames := fr, cells := 0, slots := 0, locals := lo } ∧ tN X = nL ∧ tZ X = MQ (tB X) Qc (tA X) (tS X) 0 0 (eA (tE X))
/-- a method's contract: from the world s, with the arguments av -/
def CT (l : Launch) (E : Ev) (y : MethodName) (cc : ByteArray) (nL : Nat) (ret : Option FieldType) (fr lo : Nat) (av : List Value) (σ : Sg) (Qc : Array Value → State → Outcome → State → Prop) : Prop :=
  Met l y (Cond.code y cc nL ret :: BIG) { frames := fr, cells := 0, slots := 0, locals := lo } (va_Pc av (fun U => WD E σ U.heap ∧ EV E U U.heap)) Qc 0 0 (eA E)
/-- how it ends: an int and a world; a world -/
abbrev QI (E : Ev) (Q : Int32 → Sg → Prop) : Array Value → State → Outcome → State → Prop := va_Qi Q (fun u t => WD E u t.heap) (eA E)
abbrev QV (E : Ev) (Q : Sg → Prop) : Array Value → State → Outcome → State → Prop := va_Qv Q (fun u t => WD E u t.heap) (eA E)
theorem CT_of {l : Launch} {E : Ev} {y : MethodName} {cc : ByteArray} {nL : Nat} {ret : Option FieldType} {fr lo : Nat} {av : List Value} {σ : Sg} {Qc : Array Value → State → Outcome → State → Prop} (hy : plainName y.cls = true) (hl : (lg_sl av).length ≤ nL)
    (body : ∀ X : Tx, tL X = l → tE X = E → Cx X cc y.cls ret fr lo nL Qc → G X σ (lv_args 0 av) [] 0) : CT l E y cc nL ret fr lo av σ Qc := by
  refine Met.ofW (cc := cc) (maxL := nL) (ret := ret) hy rfl ?_
  intro p e s m args below meth c s₁ B hml hv
  obtain ⟨rfl, hW, hE⟩ := hv
  have hts := atoms_spec (ws := Cond.code y cc nL ret :: BIG) B.pre
  have k := body (p, l, e, (headSpec (Cond.code y cc nL ret :: BIG) { frames := fr, cells := 0, slots := 0, locals := lo }).room, s, m, av.toArray, below, meth, c, MQ below Qc av.toArray s 0 0 (eA E), E, nL) rfl rfl
    ⟨B.exec, B.bytes, B.returns, hml, findClass_of_methodNamed B.named, B.notSynchronized, fun w h => hts w (List.mem_cons_of_mem _ h), hE, rfl, rfl, rfl⟩
  rw [lg_entry_eq]
  exact k s.heap [] _ hW va_S.rf (lv_entry av hl)
end
section
section GR
variable {X : Tx} {cc : ByteArray} {own : String} {ret : Option FieldType} {fr lo nL : Nat} {Qc : Array Value → State → Outcome → State → Prop} {σ : Sg} {lv : List (Nat × Value)} {st : List Value} {pc : Nat}
theorem gx_iconst (C : Cx X cc own ret fr lo nL Qc) {n : Int} {v : Int32} (hd : decode cc pc = .ok (.iconst n, 1)) (hv : Int32.ofInt n = v) (kk : G X σ lv (.int v :: st) (pc + 1)) : G X σ lv st pc := fun H locs ls hW hS hl => lv_iconst C.1 C.2.1 hd hv (kk H locs ls hW hS hl)
theorem gx_bipush (C : Cx X cc own ret fr lo nL Qc) {n : Int} {v : Int32} (hd : decode cc pc = .ok (.bipush n, 2)) (hv : (Int8.ofInt n).toInt32 = v) (kk : G X σ lv (.int v :: st) (pc + 2)) : G X σ lv st pc := fun H locs ls hW hS hl => lv_bipush C.1 C.2.1 hd hv (kk H locs ls hW hS hl)
theorem gx_sipush (C : Cx X cc own ret fr lo nL Qc) {n : Int} {v : Int32} (hd : decode cc pc = .ok (.sipush n, 3)) (hv : (Int16.ofInt n).toInt32 = v) (kk : G X σ lv (.int v :: st) (pc + 3)) : G X σ lv st pc := fun H locs ls hW hS hl => lv_sipush C.1 C.2.1 hd hv (kk H locs ls hW hS hl)
theorem gx_lconst (C : Cx X cc own ret fr lo nL Qc) {n : Fin 2} {v : Int64} (hd : decode cc pc = .ok (.lconst n, 1)) (hv : Int64.ofNat (n : Nat) = v) (kk : G X σ lv (.long v :: st) (pc + 1)) : G X σ lv st pc := fun H locs ls hW hS hl => lv_lconst C.1 C.2.1 hd hv (kk H locs ls hW hS hl)
theorem gx_ldc2 (C : Cx X cc own ret fr lo nL Qc) {index : Nat} {v : Int64} (hd : decode cc pc = .ok (.ldc2_w index, 3)) (hw : Cond.constantLong own index v ∈ BIG) (kk : G X σ lv (.long v :: st) (pc + 3)) : G X σ lv st pc := fun H locs ls hW hS hl => lv_ldc2 C.1 C.2.1 C.2.2.2.2.1 (C.2.2.2.2.2.2.1 _ hw) hd (kk H locs ls hW hS hl)
theorem gx_iload_n (C : Cx X cc own ret fr lo nL Qc) {k : Fin 4} {x : Int32} (hd : decode cc pc = .ok (.iload_n k, 1)) (j : Nat) (hj : lv[j]? = some ((k : Nat), .int x)) (kk : G X σ lv (.int x :: st) (pc + 1)) : G X σ lv st pc := fun H locs ls hW hS hl => lv_iload_n C.1 C.2.1 hd rfl (lv_at hl j hj) (kk H locs ls hW hS hl)
theorem gx_iload (C : Cx X cc own ret fr lo nL Qc) {i : Nat} {x : Int32} (hd : decode cc pc = .ok (.iload i, 2)) (j : Nat) (hj : lv[j]? = some (i, .int x)) (kk : G X σ lv (.int x :: st) (pc + 2)) : G X σ lv st pc := fun H locs ls hW hS hl => lv_iload C.1 C.2.1 hd (lv_at hl j hj) (kk H locs ls hW hS hl)
theorem gx_lload_n (C : Cx X cc own ret fr lo nL Qc) {k : Fin 4} {x : Int64} (hd : decode cc pc = .ok (.lload_n k, 1)) (j : Nat) (hj : lv[j]? = some ((k : Nat), .long x)) (kk : G X σ lv (.long x :: st) (pc + 1)) : G X σ lv st pc := fun H locs ls hW hS hl => lv_lload_n C.1 C.2.1 hd rfl (lv_at hl j hj) (kk H locs ls hW hS hl)
theorem gx_lload (C : Cx X cc own ret fr lo nL Qc) {i : Nat} {x : Int64} (hd : decode cc pc = .ok (.lload i, 2)) (j : Nat) (hj : lv[j]? = some (i, .long x)) (kk : G X σ lv (.long x :: st) (pc + 2)) : G X σ lv st pc := fun H locs ls hW hS hl => lv_lload C.1 C.2.1 hd (lv_at hl j hj) (kk H locs ls hW hS hl)
theorem gx_aload_n (C : Cx X cc own ret fr lo nL Qc) {k : Fin 4} {x : Nat} (hd : decode cc pc = .ok (.aload_n k, 1)) (j : Nat) (hj : lv[j]? = some ((k : Nat), .ref x)) (kk : G X σ lv (.ref x :: st) (pc + 1)) : G X σ lv st pc := fun H locs ls hW hS hl => lv_aload_n C.1 C.2.1 hd rfl (lv_at hl j hj) (kk H locs ls hW hS hl)
theorem gx_aload (C : Cx X cc own ret fr lo nL Qc) {i : Nat} {x : Nat} (hd : decode cc pc = .ok (.aload i, 2)) (j : Nat) (hj : lv[j]? = some (i, .ref x)) (kk : G X σ lv (.ref x :: st) (pc + 2)) : G X σ lv st pc := fun H locs ls hW hS hl => lv_aload C.1 C.2.1 hd (lv_at hl j hj) (kk H locs ls hW hS hl)
theorem gx_istore_n (C : Cx X cc own ret fr lo nL Qc) {k : Fin 4} {x : Int32} {lv' : List (Nat × Value)} (hd : decode cc pc = .ok (.istore_n k, 1)) (hn : (k : Nat) < nL) (hl' : ((k : Nat), Value.int x) :: lv.filter (fun q => !(q.1 == (k : Nat)) && !(q.1 + 1 == (k : Nat) && q.2.category == 2)) = lv') (kk : G X σ lv' st (pc + 1)) : G X σ lv (.int x :: st) pc := fun H locs ls hW hS hl => lv_istore_n C.1 C.2.1 hd rfl hl (by rw [C.2.2.2.2.2.2.2.2.2.1]; exact hn) hl' (fun ls hl => kk H locs ls hW hS hl)
theorem gx_istore (C : Cx X cc own ret fr lo nL Qc) {i : Nat} {x : Int32} {lv' : List (Nat × Value)} (hd : decode cc pc = .ok (.istore i, 2)) (hn : i < nL) (hl' : (i, Value.int x) :: lv.filter (fun q => !(q.1 == i) && !(q.1 + 1 == i && q.2.category == 2)) = lv') (kk : G X σ lv' st (pc + 2)) : G X σ lv (.int x :: st) pc := fun H locs ls hW hS hl => lv_istore C.1 C.2.1 hd hl (by rw [C.2.2.2.2.2.2.2.2.2.1]; exact hn) hl' (fun ls hl => kk H locs ls hW hS hl)
theorem gx_astore_n (C : Cx X cc own ret fr lo nL Qc) {k : Fin 4} {x : Nat} {lv' : List (Nat × Value)} (hd : decode cc pc = .ok (.astore_n k, 1)) (hn : (k : Nat) < nL) (hl' : ((k : Nat), Value.ref x) :: lv.filter (fun q => !(q.1 == (k : Nat)) && !(q.1 + 1 == (k : Nat) && q.2.category == 2)) = lv') (kk : G X σ lv' st (pc + 1)) : G X σ lv (.ref x :: st) pc := fun H locs ls hW hS hl => lv_astore_n C.1 C.2.1 hd rfl hl (by rw [C.2.2.2.2.2.2.2.2.2.1]; exact hn) hl' (fun ls hl => kk H locs ls hW hS hl)
theorem gx_astore (C : Cx X cc own ret fr lo nL Qc) {i : Nat} {x : Nat} {lv' : List (Nat × Value)} (hd : decode cc pc = .ok (.astore i, 2)) (hn : i < nL) (hl' : (i, Value.ref x) :: lv.filter (fun q => !(q.1 == i) && !(q.1 + 1 == i && q.2.category == 2)) = lv') (kk : G X σ lv' st (pc + 2)) : G X σ lv (.ref x :: st) pc := fun H locs ls hW hS hl => lv_astore C.1 C.2.1 hd hl (by rw [C.2.2.2.2.2.2.2.2.2.1]; exact hn) hl' (fun ls hl => kk H locs ls hW hS hl)
theorem gx_iinc (C : Cx X cc own ret fr lo nL Qc) {i : Nat} {n : Int} {x v : Int32} {lv' : List (Nat × Value)} (hd : decode cc pc = .ok (.iinc i n, 3)) (j : Nat) (hj : lv[j]? = some (i, .int x)) (hv : x + Int32.ofInt n = v) (hn : i < nL) (hl' : (i, Value.int v) :: lv.filter (fun q => !(q.1 == i) && !(q.1 + 1 == i && q.2.category == 2)) = lv') (kk : G X σ lv' st (pc + 3)) : G X σ lv st pc := fun H locs ls hW hS hl => lv_iinc C.1 C.2.1 hd hl hj hv (by rw [C.2.2.2.2.2.2.2.2.2.1]; exact hn) hl' (fun ls hl => kk H locs ls hW hS hl)
theorem gx_lstore_n (C : Cx X cc own ret fr lo nL Qc) {k : Fin 4} {x : Int64} {lv' : List (Nat × Value)} (hd : decode cc pc = .ok (.lstore_n k, 1)) (hn : (k : Nat) + 1 < nL) (hl' : ((k : Nat), Value.long x) :: lv.filter (fun q => !(q.1 == (k : Nat)) && (!(q.1 == (k : Nat) + 1) && !(q.1 + 1 == (k : Nat) && q.2.category == 2))) = lv') (kk : G X σ lv' st (pc + 1)) : G X σ lv (.long x :: st) pc := fun H locs ls hW hS hl => lv_lstore_n C.1 C.2.1 hd rfl hl (by rw [C.2.2.2.2.2.2.2.2.2.1]; exact hn) hl' (fun ls hl => kk H locs ls hW hS hl)
theorem gx_lstore (C : Cx X cc own ret fr lo nL Qc) {i : Nat} {x : Int64} {lv' : List (Nat × Value)} (hd : decode cc pc = .ok (.lstore i, 2)) (hn : i + 1 < nL) (hl' : (i, Value.long x) :: lv.filter (fun q => !(q.1 == i) && (!(q.1 == i + 1) && !(q.1 + 1 == i && q.2.category == 2))) = lv') (kk : G X σ lv' st (pc + 2)) : G X σ lv (.long x :: st) pc := fun H locs ls hW hS hl => lv_lstore C.1 C.2.1 hd hl (by rw [C.2.2.2.2.2.2.2.2.2.1]; exact hn) hl' (fun ls hl => kk H locs ls hW hS hl)
theorem gx_iadd (C : Cx X cc own ret fr lo nL Qc) {x y : Int32} (hd : decode cc pc = .ok (.iadd, 1)) (kk : G X σ lv (.int (x + y) :: st) (pc + 1)) : G X σ lv (.int y :: .int x :: st) pc := fun H locs ls hW hS hl => lv_iadd C.1 C.2.1 hd (kk H locs ls hW hS hl)
theorem gx_isub (C : Cx X cc own ret fr lo nL Qc) {x y : Int32} (hd : decode cc pc = .ok (.isub, 1)) (kk : G X σ lv (.int (x - y) :: st) (pc + 1)) : G X σ lv (.int y :: .int x :: st) pc := fun H locs ls hW hS hl => lv_isub C.1 C.2.1 hd (kk H locs ls hW hS hl)
theorem gx_imul (C : Cx X cc own ret fr lo nL Qc) {x y : Int32} (hd : decode cc pc = .ok (.imul, 1)) (kk : G X σ lv (.int (x * y) :: st) (pc + 1)) : G X σ lv (.int y :: .int x :: st) pc := fun H locs ls hW hS hl => lv_imul C.1 C.2.1 hd (kk H locs ls hW hS hl)
theorem gx_iand (C : Cx X cc own ret fr lo nL Qc) {x y : Int32} (hd : decode cc pc = .ok (.iand, 1)) (kk : G X σ lv (.int (x &&& y) :: st) (pc + 1)) : G X σ lv (.int y :: .int x :: st) pc := fun H locs ls hW hS hl => lv_iand C.1 C.2.1 hd (kk H locs ls hW hS hl)
theorem gx_ior (C : Cx X cc own ret fr lo nL Qc) {x y : Int32} (hd : decode cc pc = .ok (.ior, 1)) (kk : G X σ lv (.int (x ||| y) :: st) (pc + 1)) : G X σ lv (.int y :: .int x :: st) pc := fun H locs ls hW hS hl => lv_ior C.1 C.2.1 hd (kk H locs ls hW hS hl)
theorem gx_ixor (C : Cx X cc own ret fr lo nL Qc) {x y : Int32} (hd : decode cc pc = .ok (.ixor, 1)) (kk : G X σ lv (.int (x ^^^ y) :: st) (pc + 1)) : G X σ lv (.int y :: .int x :: st) pc := fun H locs ls hW hS hl => lv_ixor C.1 C.2.1 hd (kk H locs ls hW hS hl)
theorem gx_ishl (C : Cx X cc own ret fr lo nL Qc) {x y : Int32} (hd : decode cc pc = .ok (.ishl, 1)) (kk : G X σ lv (.int (x <<< (y &&& 31)) :: st) (pc + 1)) : G X σ lv (.int y :: .int x :: st) pc := fun H locs ls hW hS hl => lv_ishl C.1 C.2.1 hd (kk H locs ls hW hS hl)
theorem gx_ishr (C : Cx X cc own ret fr lo nL Qc) {x y : Int32} (hd : decode cc pc = .ok (.ishr, 1)) (kk : G X σ lv (.int (x >>> (y &&& 31)) :: st) (pc + 1)) : G X σ lv (.int y :: .int x :: st) pc := fun H locs ls hW hS hl => lv_ishr C.1 C.2.1 hd (kk H locs ls hW hS hl)
theorem gx_idiv (C : Cx X cc own ret fr lo nL Qc) {x y : Int32} (hd : decode cc pc = .ok (.idiv, 1)) (hne : ¬ y = 0) (kk : G X σ lv (.int (x / y) :: st) (pc + 1)) : G X σ lv (.int y :: .int x :: st) pc := fun H locs ls hW hS hl => lv_idiv C.1 C.2.1 hd hne (kk H locs ls hW hS hl)
theorem gx_irem (C : Cx X cc own ret fr lo nL Qc) {x y : Int32} (hd : decode cc pc = .ok (.irem, 1)) (hne : ¬ y = 0) (kk : G X σ lv (.int (x - x / y * y) :: st) (pc + 1)) : G X σ lv (.int y :: .int x :: st) pc := fun H locs ls hW hS hl => lv_irem C.1 C.2.1 hd hne (kk H locs ls hW hS hl)
theorem gx_land (C : Cx X cc own ret fr lo nL Qc) {x y : Int64} (hd : decode cc pc = .ok (.land, 1)) (kk : G X σ lv (.long (x &&& y) :: st) (pc + 1)) : G X σ lv (.long y :: .long x :: st) pc := fun H locs ls hW hS hl => lv_land C.1 C.2.1 hd (kk H locs ls hW hS hl)
theorem gx_lor (C : Cx X cc own ret fr lo nL Qc) {x y : Int64} (hd : decode cc pc = .ok (.lor, 1)) (kk : G X σ lv (.long (x ||| y) :: st) (pc + 1)) : G X σ lv (.long y :: .long x :: st) pc := fun H locs ls hW hS hl => lv_lor C.1 C.2.1 hd (kk H locs ls hW hS hl)
theorem gx_lushr (C : Cx X cc own ret fr lo nL Qc) {x : Int64} {y : Int32} (hd : decode cc pc = .ok (.lushr, 1)) (kk : G X σ lv (.long ((x.toUInt64 >>> (y.toInt64.toUInt64 &&& Int64.toUInt64 63)).toInt64) :: st) (pc + 1)) : G X σ lv (.int y :: .long x :: st) pc := fun H locs ls hW hS hl => lv_lushr C.1 C.2.1 hd rfl (kk H locs ls hW hS hl)
theorem gx_lshl (C : Cx X cc own ret fr lo nL Qc) {x : Int64} {y : Int32} (hd : decode cc pc = .ok (.lshl, 1)) (kk : G X σ lv (.long (x <<< (y.toInt64 &&& 63)) :: st) (pc + 1)) : G X σ lv (.int y :: .long x :: st) pc := fun H locs ls hW hS hl => lv_lshl C.1 C.2.1 hd rfl (kk H locs ls hW hS hl)
theorem gx_lcmp (C : Cx X cc own ret fr lo nL Qc) {x y : Int64} (hd : decode cc pc = .ok (.lcmp, 1)) (kk : G X σ lv (.int (lg_cmp x y) :: st) (pc + 1)) : G X σ lv (.long y :: .long x :: st) pc := fun H locs ls hW hS hl => W.lcmp C.1 C.2.1 hd (kk H locs ls hW hS hl)
theorem gx_i2l (C : Cx X cc own ret fr lo nL Qc) {x : Int32} (hd : decode cc pc = .ok (.i2l, 1)) (kk : G X σ lv (.long (x.toInt64) :: st) (pc + 1)) : G X σ lv (.int x :: st) pc := fun H locs ls hW hS hl => lv_i2l C.1 C.2.1 hd rfl (kk H locs ls hW hS hl)
theorem gx_l2i (C : Cx X cc own ret fr lo nL Qc) {x : Int64} (hd : decode cc pc = .ok (.l2i, 1)) (kk : G X σ lv (.int (x.toInt32) :: st) (pc + 1)) : G X σ lv (.long x :: st) pc := fun H locs ls hW hS hl => lv_l2i C.1 C.2.1 hd rfl (kk H locs ls hW hS hl)
theorem gx_i2c (C : Cx X cc own ret fr lo nL Qc) {x : Int32} (hd : decode cc pc = .ok (.i2c, 1)) (kk : G X σ lv (.int ((x.toUInt32 % 65536).toInt32) :: st) (pc + 1)) : G X σ lv (.int x :: st) pc := fun H locs ls hW hS hl => lv_i2c C.1 C.2.1 hd rfl (kk H locs ls hW hS hl)
theorem gx_dup (C : Cx X cc own ret fr lo nL Qc) {va : Value} (hd : decode cc pc = .ok (.dup, 1)) (hva : va.category = 1) (kk : G X σ lv (va :: va :: st) (pc + 1)) : G X σ lv (va :: st) pc := fun H locs ls hW hS hl => lv_dup C.1 C.2.1 hd hva (kk H locs ls hW hS hl)
theorem gx_pop (C : Cx X cc own ret fr lo nL Qc) {va : Value} (hd : decode cc pc = .ok (.pop, 1)) (hva : va.category = 1) (kk : G X σ lv st (pc + 1)) : G X σ lv (va :: st) pc := fun H locs ls hW hS hl => lv_pop C.1 C.2.1 hd hva (kk H locs ls hW hS hl)
theorem gx_dup_x1 (C : Cx X cc own ret fr lo nL Qc) {va vb : Value} (hd : decode cc pc = .ok (.dup_x1, 1)) (hva : va.category = 1) (hvb : vb.category = 1) (kk : G X σ lv (va :: vb :: va :: st) (pc + 1)) : G X σ lv (va :: vb :: st) pc := fun H locs ls hW hS hl => lv_dup_x1 C.1 C.2.1 hd hva hvb (kk H locs ls hW hS hl)
theorem gx_dup2 (C : Cx X cc own ret fr lo nL Qc) {va vb : Value} (hd : decode cc pc = .ok (.dup2, 1)) (hva : va.category = 1) (hvb : vb.category = 1) (kk : G X σ lv (va :: vb :: va :: vb :: st) (pc + 1)) : G X σ lv (va :: vb :: st) pc := fun H locs ls hW hS hl => lv_dup2_11 C.1 C.2.1 hd hva hvb (kk H locs ls hW hS hl)
theorem gx_if_eq (C : Cx X cc own ret fr lo nL Qc) {x : Int32} {off : Int} {tgt : Nat} (hd : decode cc pc = .ok (.ifCond .eq off, 3)) (ht : (pc : Int) + off = (tgt : Int)) (kt : x = 0 → G X σ lv st tgt) (kf : ¬ x = 0 → G X σ lv st (pc + 3)) : G X σ lv (.int x :: st) pc := fun H locs ls hW hS hl => lv_if_eq C.1 C.2.1 hd ht (fun h => kt h H locs ls hW hS hl) (fun h => kf h H locs ls hW hS hl)
theorem gx_if_ne (C : Cx X cc own ret fr lo nL Qc) {x : Int32} {off : Int} {tgt : Nat} (hd : decode cc pc = .ok (.ifCond .ne off, 3)) (ht : (pc : Int) + off = (tgt : Int)) (kt : ¬ x = 0 → G X σ lv st tgt) (kf : x = 0 → G X σ lv st (pc + 3)) : G X σ lv (.int x :: st) pc := fun H locs ls hW hS hl => lv_if_ne C.1 C.2.1 hd ht (fun h => kt h H locs ls hW hS hl) (fun h => kf h H locs ls hW hS hl)
theorem gx_if_lt (C : Cx X cc own ret fr lo nL Qc) {x : Int32} {off : Int} {tgt : Nat} (hd : decode cc pc = .ok (.ifCond .lt off, 3)) (ht : (pc : Int) + off = (tgt : Int)) (kt : x < 0 → G X σ lv st tgt) (kf : ¬ x < 0 → G X σ lv st (pc + 3)) : G X σ lv (.int x :: st) pc := fun H locs ls hW hS hl => lv_if_lt C.1 C.2.1 hd ht (fun h => kt h H locs ls hW hS hl) (fun h => kf h H locs ls hW hS hl)
theorem gx_if_ge (C : Cx X cc own ret fr lo nL Qc) {x : Int32} {off : Int} {tgt : Nat} (hd : decode cc pc = .ok (.ifCond .ge off, 3)) (ht : (pc : Int) + off = (tgt : Int)) (kt : 0 ≤ x → G X σ lv st tgt) (kf : ¬ 0 ≤ x → G X σ lv st (pc + 3)) : G X σ lv (.int x :: st) pc := fun H locs ls hW hS hl => lv_if_ge C.1 C.2.1 hd ht (fun h => kt h H locs ls hW hS hl) (fun h => kf h H locs ls hW hS hl)
theorem gx_if_gt (C : Cx X cc own ret fr lo nL Qc) {x : Int32} {off : Int} {tgt : Nat} (hd : decode cc pc = .ok (.ifCond .gt off, 3)) (ht : (pc : Int) + off = (tgt : Int)) (kt : 0 < x → G X σ lv st tgt) (kf : ¬ 0 < x → G X σ lv st (pc + 3)) : G X σ lv (.int x :: st) pc := fun H locs ls hW hS hl => lv_if_gt C.1 C.2.1 hd ht (fun h => kt h H locs ls hW hS hl) (fun h => kf h H locs ls hW hS hl)
theorem gx_if_le (C : Cx X cc own ret fr lo nL Qc) {x : Int32} {off : Int} {tgt : Nat} (hd : decode cc pc = .ok (.ifCond .le off, 3)) (ht : (pc : Int) + off = (tgt : Int)) (kt : x ≤ 0 → G X σ lv st tgt) (kf : ¬ x ≤ 0 → G X σ lv st (pc + 3)) : G X σ lv (.int x :: st) pc := fun H locs ls hW hS hl => lv_if_le C.1 C.2.1 hd ht (fun h => kt h H locs ls hW hS hl) (fun h => kf h H locs ls hW hS hl)
theorem gx_icmp_eq (C : Cx X cc own ret fr lo nL Qc) {x y : Int32} {off : Int} {tgt : Nat} (hd : decode cc pc = .ok (.if_icmp .eq off, 3)) (ht : (pc : Int) + off = (tgt : Int)) (kt : x = y → G X σ lv st tgt) (kf : ¬ x = y → G X σ lv st (pc + 3)) : G X σ lv (.int y :: .int x :: st) pc := fun H locs ls hW hS hl => lv_icmp_eq C.1 C.2.1 hd ht (fun h => kt h H locs ls hW hS hl) (fun h => kf h H locs ls hW hS hl)
theorem gx_icmp_ne (C : Cx X cc own ret fr lo nL Qc) {x y : Int32} {off : Int} {tgt : Nat} (hd : decode cc pc = .ok (.if_icmp .ne off, 3)) (ht : (pc : Int) + off = (tgt : Int)) (kt : ¬ x = y → G X σ lv st tgt) (kf : x = y → G X σ lv st (pc + 3)) : G X σ lv (.int y :: .int x :: st) pc := fun H locs ls hW hS hl => lv_icmp_ne C.1 C.2.1 hd ht (fun h => kt h H locs ls hW hS hl) (fun h => kf h H locs ls hW hS hl)
theorem gx_icmp_lt (C : Cx X cc own ret fr lo nL Qc) {x y : Int32} {off : Int} {tgt : Nat} (hd : decode cc pc = .ok (.if_icmp .lt off, 3)) (ht : (pc : Int) + off = (tgt : Int)) (kt : x < y → G X σ lv st tgt) (kf : ¬ x < y → G X σ lv st (pc + 3)) : G X σ lv (.int y :: .int x :: st) pc := fun H locs ls hW hS hl => lv_icmp_lt C.1 C.2.1 hd ht (fun h => kt h H locs ls hW hS hl) (fun h => kf h H locs ls hW hS hl)
theorem gx_icmp_ge (C : Cx X cc own ret fr lo nL Qc) {x y : Int32} {off : Int} {tgt : Nat} (hd : decode cc pc = .ok (.if_icmp .ge off, 3)) (ht : (pc : Int) + off = (tgt : Int)) (kt : y ≤ x → G X σ lv st tgt) (kf : ¬ y ≤ x → G X σ lv st (pc + 3)) : G X σ lv (.int y :: .int x :: st) pc := fun H locs ls hW hS hl => lv_icmp_ge C.1 C.2.1 hd ht (fun h => kt h H locs ls hW hS hl) (fun h => kf h H locs ls hW hS hl)
theorem gx_icmp_gt (C : Cx X cc own ret fr lo nL Qc) {x y : Int32} {off : Int} {tgt : Nat} (hd : decode cc pc = .ok (.if_icmp .gt off, 3)) (ht : (pc : Int) + off = (tgt : Int)) (kt : y < x → G X σ lv st tgt) (kf : ¬ y < x → G X σ lv st (pc + 3)) : G X σ lv (.int y :: .int x :: st) pc := fun H locs ls hW hS hl => lv_icmp_gt C.1 C.2.1 hd ht (fun h => kt h H locs ls hW hS hl) (fun h => kf h H locs ls hW hS hl)
theorem gx_icmp_le (C : Cx X cc own ret fr lo nL Qc) {x y : Int32} {off : Int} {tgt : Nat} (hd : decode cc pc = .ok (.if_icmp .le off, 3)) (ht : (pc : Int) + off = (tgt : Int)) (kt : x ≤ y → G X σ lv st tgt) (kf : ¬ x ≤ y → G X σ lv st (pc + 3)) : G X σ lv (.int y :: .int x :: st) pc := fun H locs ls hW hS hl => lv_icmp_le C.1 C.2.1 hd ht (fun h => kt h H locs ls hW hS hl) (fun h => kf h H locs ls hW hS hl)
theorem gx_goto (C : Cx X cc own ret fr lo nL Qc) {off : Int} {tgt : Nat} (hd : decode cc pc = .ok (.goto off, 3)) (ht : (pc : Int) + off = (tgt : Int)) (kk : G X σ lv st tgt) : G X σ lv st pc := fun H locs ls hW hS hl => lv_goto C.1 C.2.1 hd ht (kk H locs ls hW hS hl)
theorem gx_sub {lv' : List (Nat × Value)} (ks : List Nat) (h : lv_pick lv ks = lv') (kk : G X σ lv' st pc) : G X σ lv st pc := fun H locs ls hW hS hl => kk H locs ls hW hS (lv_sub hl ks h)
theorem gx_top {x y : Int32} (e : x = y) (kk : G X σ lv (.int x :: st) pc) : G X σ lv (.int y :: st) pc := e ▸ kk
theorem gx_topl {x y : Int64} (e : x = y) (kk : G X σ lv (.long x :: st) pc) : G X σ lv (.long y :: st) pc := e ▸ kk
theorem gx_table (C : Cx X cc own ret fr lo nL Qc) {dflt lo hi : Int} {offs : Array Int} {len : Nat} {x : Int32} {off : Int} {tgt : Nat} (hd : decode cc pc = .ok (.tableswitch dflt lo hi offs, len)) (k : Int32) (hx : x = k) (h1 : ¬ k.toInt < lo) (h2 : ¬ hi < k.toInt) (ho : offs[(k.toInt - lo).toNat]? = some off) (ht : (pc : Int) + off = (tgt : Int)) (kk : G X σ lv st tgt) : G X σ lv (.int x :: st) pc := fun H locs ls hW hS hl => lv_tableIn C.1 C.2.1 hd (by rw [hx]; exact h1) (by rw [hx]; exact h2) (by rw [hx]; exact ho) ht (kk H locs ls hW hS hl)
theorem gx_tableD (C : Cx X cc own ret fr lo nL Qc) {dflt l h : Int} {offs : Array Int} {len : Nat} {x : Int32} {tgt : Nat} (hd : decode cc pc = .ok (.tableswitch dflt l h offs, len)) (hz : h - l + 1 = (offs.toList.length : Int)) (hall : ∀ p ∈ offs.toList.zipIdx, p.1 = dflt ∨ ∃ k : Int32, ¬ x = k ∧ k.toInt = l + (p.2 : Int)) (ht : (pc : Int) + dflt = (tgt : Int)) (kk : G X σ lv st tgt) : G X σ lv (.int x :: st) pc := by
  intro H locs ls hW hS hl
  by_cases h1 : x.toInt < l
  · exact lv_tableOut C.1 C.2.1 hd (Or.inl h1) ht (kk H locs ls hW hS hl)
  · by_cases h2 : h < x.toInt
    · exact lv_tableOut C.1 C.2.1 hd (Or.inr h2) ht (kk H locs ls hW hS hl)
    · have hj : (x.toInt - l).toNat < offs.toList.length := by omega
      have hm := hall (offs.toList[(x.toInt - l).toNat], (x.toInt - l).toNat) (List.mem_zipIdx_iff_getElem?.mpr (List.getElem?_eq_getElem hj))
      rcases hm with e | ⟨k, n, e⟩
      · exact lv_tableIn C.1 C.2.1 hd h1 h2 (by rw [← Array.getElem?_toList, List.getElem?_eq_getElem hj]; exact congrArg some e) ht (kk H locs ls hW hS hl)
      · exact absurd (Int32.toInt_inj.mp (by rw [e]; omega)) n
theorem gx_lookup (C : Cx X cc own ret fr lo nL Qc) {dflt : Int} {ps : Array (Int × Int)} {len : Nat} {x : Int32} {off : Int} {tgt : Nat} (hd : decode cc pc = .ok (.lookupswitch dflt ps, len)) (hp : (ps.toList.zip (ps.toList.drop 1)).all (fun (a, next) => a.1 < next.1) = true) (ho : Op.lookupswitch.offset ps.toList dflt x.toInt = off) (ht : (pc : Int) + off = (tgt : Int)) (kk : G X σ lv st tgt) : G X σ lv (.int x :: st) pc := fun H locs ls hW hS hl => lv_lookup C.1 C.2.1 hd hp ho ht (kk H locs ls hW hS hl)
theorem gx_get (C : Cx X cc own ret fr lo nL Qc) {mm k i : Nat} (ok : okc mm k i) {ci : Nat} {fs : List Value} (he : ce (tE X) k mm i (σ mm k i) = .inr (ci, fs)) {T : u_T} {N : Nat} {D : String} (hc : vwCl[ci]? = some (D, T, N)) (hin : ∀ w ∈ u_ws D T N, w ∈ BIG) {index : Nat} {ref : String} (j : Nat) (hj : j < N) (hw : Cond.fieldLink own index ref (T j).2.1 (T j).2.2.1 ∈ BIG) (hr : (T j).1 = ref) {v : Value} (hv : fs[j]? = some v) (hd : decode cc pc = .ok (.getfield index, 3)) (kk : G X σ lv (v :: st) (pc + 3)) : G X σ lv (.ref (ad (tE X) mm k i) :: st) pc := fun H locs ls hW hS hl => va_get C.1 C.2.1 C.2.2.2.2.2.2.1 hin C.2.2.2.2.1 C.2.2.2.2.2.2.2.1.1 (hW.cell ok he) 0 rfl hc j hj (C.2.2.2.2.2.2.1 _ hw) (fun _ h9 => by rw [← hr]; exact h9) hv hd (kk H locs ls hW hS hl)
theorem gx_put (C : Cx X cc own ret fr lo nL Qc) {mm k i : Nat} (ok : okc mm k i) {ci : Nat} {fs : List Value} (he : ce (tE X) k mm i (σ mm k i) = .inr (ci, fs)) {T : u_T} {N : Nat} {D : String} (hc : vwCl[ci]? = some (D, T, N)) (hin : ∀ w ∈ u_ws D T N, w ∈ BIG) (ty0 : Nat → FieldType) (hty : ∀ k, k < N → parseFieldDescriptor (T k).2.2.1 = some (ty0 k)) (hnm : ∀ a, a < N → ∀ b, b < N → a ≠ b → (T a).2.1 ≠ (T b).2.1) {index : Nat} {ref : String} (j : Nat) (hj : j < N) (hw : Cond.fieldLink own index ref (T j).2.1 (T j).2.2.1 ∈ BIG) (hr : (T j).1 = ref) (hfin : (T j).2.2.2 = false) {v : Value} (hn : narrow (ty0 j) v = v) (hfit : fits (ty0 j) v = true) (hl9 : j < fs.length) (f' : Nat → Int32) (hset : ce (tE X) k mm i f' = .inr (ci, fs.set j v)) (hd : decode cc pc = .ok (.putfield index, 3)) (kk : G X (ua σ mm k i f') lv st (pc + 3)) : G X σ lv (v :: .ref (ad (tE X) mm k i) :: st) pc := by
  intro H locs ls hW hS hl
  obtain ⟨q, hq, hwl⟩ := wl_at (tE X) σ ok
  rw [he] at hwl
  refine va_put C.1 C.2.1 C.2.2.2.2.2.2.1 hin ty0 hty hnm C.2.2.2.2.1 C.2.2.2.2.2.2.2.1.1 hW (wl_D _ _ C.2.2.2.2.2.2.2.1.2.1) hS q hwl hc j hj (C.2.2.2.2.2.2.1 _ hw) (fun _ h9 => by rw [← hr]; exact h9) hfin (hty j hj) hn hfit hl9 hd (fun H1 locs1 hP1 hD1 hS1 => ?_)
  rw [← hset, wl_set _ _ hq] at hP1
  exact kk H1 locs1 ls hP1 hS1 hl
theorem gx_iald (C : Cx X cc own ret fr lo nL Qc) {mm k i : Nat} (ok : okc mm k i) {n : Nat} {f : Nat → Int32} (he : ce (tE X) k mm i (σ mm k i) = .inl (eC (tE X) 0, n, .inl f)) {x : Int32} (hx : vp_in x n) (j : Nat) (hj : x.toNatClampNeg = j) (hd : decode cc pc = .ok (.iaload, 1)) (kk : G X σ lv (.int (f j) :: st) (pc + 1)) : G X σ lv (.int x :: .ref (ad (tE X) mm k i) :: st) pc := fun H locs ls hW hS hl => va_iald C.1 C.2.1 C.2.2.2.2.2.2.2.1.1 (hW.cell ok he) 0 0 rfl rfl hx hd (by rw [hj]; exact kk H locs ls hW hS hl)
theorem gx_zald (C : Cx X cc own ret fr lo nL Qc) {mm k i : Nat} (ok : okc mm k i) {n : Nat} {f : Nat → Int32} (he : ce (tE X) k mm i (σ mm k i) = .inl (eC (tE X) 1, n, .inl f)) {x : Int32} (hx : vp_in x n) (j : Nat) (hj : x.toNatClampNeg = j) (hd : decode cc pc = .ok (.baload, 1)) (kk : G X σ lv (.int (f j) :: st) (pc + 1)) : G X σ lv (.int x :: .ref (ad (tE X) mm k i) :: st) pc := fun H locs ls hW hS hl => va_zald C.1 C.2.1 C.2.2.2.2.2.2.2.1.1 (hW.cell ok he) 0 1 rfl rfl hx hd (by rw [hj]; exact kk H locs ls hW hS hl)
theorem gx_cald (C : Cx X cc own ret fr lo nL Qc) {mm k i : Nat} (ok : okc mm k i) {n : Nat} {f : Nat → Int32} (he : ce (tE X) k mm i (σ mm k i) = .inl (eC (tE X) 2, n, .inl f)) {x : Int32} (hx : vp_in x n) (j : Nat) (hj : x.toNatClampNeg = j) (hd : decode cc pc = .ok (.caload, 1)) (kk : G X σ lv (.int (f j) :: st) (pc + 1)) : G X σ lv (.int x :: .ref (ad (tE X) mm k i) :: st) pc := fun H locs ls hW hS hl => va_cald C.1 C.2.1 C.2.2.2.2.2.2.2.1.1 (hW.cell ok he) 0 2 rfl rfl hx hd (by rw [hj]; exact kk H locs ls hW hS hl)
theorem gx_aald (C : Cx X cc own ret fr lo nL Qc) {mm k i : Nat} (ok : okc mm k i) {n t0 : Nat} {D : String} {cA : ClassId} {f : Nat → Option Nat} (he : ce (tE X) k mm i (σ mm k i) = .inl (cA, n, .inr (.inr (.inr (.inr f))))) (ht : (ety (tE X))[t0]? = some (cA, .object D)) {x : Int32} (hx : vp_in x n) {v : Value} (hv : va_rf (f x.toNatClampNeg) = v) (hd : decode cc pc = .ok (.aaload, 1)) (kk : G X σ lv (v :: st) (pc + 1)) : G X σ lv (.int x :: .ref (ad (tE X) mm k i) :: st) pc := fun H locs ls hW hS hl => va_aldq C.1 C.2.1 C.2.2.2.2.2.2.2.1.1 (hW.cell ok he) 0 t0 rfl ht hx hd (by rw [hv]; exact kk H locs ls hW hS hl)
theorem gx_alen (C : Cx X cc own ret fr lo nL Qc) {mm k i : Nat} (ok : okc mm k i) {n t0 : Nat} {ty : FieldType} {cA : ClassId} {a : vp_A} (he : ce (tE X) k mm i (σ mm k i) = .inl (cA, a)) (ht : (ety (tE X))[t0]? = some (cA, ty)) {v : Int32} (hv : Int32.ofNat a.1 = v) (hd : decode cc pc = .ok (.arraylength, 1)) (kk : G X σ lv (.int v :: st) (pc + 1)) : G X σ lv (.ref (ad (tE X) mm k i) :: st) pc := fun H locs ls hW hS hl => va_alen C.1 C.2.1 C.2.2.2.2.2.2.2.1.1 (hW.cell ok he) 0 t0 rfl ht hv hd (kk H locs ls hW hS hl)
theorem gx_iast (C : Cx X cc own ret fr lo nL Qc) {mm k i : Nat} (ok : okc mm k i) {n : Nat} (he : ∀ f, ce (tE X) k mm i f = .inl (eC (tE X) 0, n, .inl f)) {x y : Int32} (hx : vp_in x n) (j : Nat) (hj : x.toNatClampNeg = j) {y' : Int32} (hy' : y = y') (hd : decode cc pc = .ok (.iastore, 1)) (kk : G X (ua σ mm k i (upd (σ mm k i) j y')) lv st (pc + 1)) : G X σ lv (.int y :: .int x :: .ref (ad (tE X) mm k i) :: st) pc := by
  intro H locs ls hW hS hl
  obtain ⟨q, hq, hwl⟩ := wl_at (tE X) σ ok
  rw [he] at hwl
  refine va_iast C.1 C.2.1 C.2.2.2.2.2.2.2.1.1 hW (wl_D _ _ C.2.2.2.2.2.2.2.1.2.1) hS q 0 hwl rfl hx hd (fun H1 locs1 hP1 hD1 hS1 => ?_)
  rw [hj, hy', ← he, wl_set _ _ hq] at hP1
  exact kk H1 locs1 ls hP1 hS1 hl
theorem gx_zast (C : Cx X cc own ret fr lo nL Qc) {mm k i : Nat} (ok : okc mm k i) {n : Nat} (he : ∀ f, ce (tE X) k mm i f = .inl (eC (tE X) 1, n, .inl f)) {x y : Int32} (hx : vp_in x n) (j : Nat) (hj : x.toNatClampNeg = j) {y' : Int32} (hy' : vp_nar .boolean y = y') (hd : decode cc pc = .ok (.bastore, 1)) (kk : G X (ua σ mm k i (upd (σ mm k i) j y')) lv st (pc + 1)) : G X σ lv (.int y :: .int x :: .ref (ad (tE X) mm k i) :: st) pc := by
  intro H locs ls hW hS hl
  obtain ⟨q, hq, hwl⟩ := wl_at (tE X) σ ok
  rw [he] at hwl
  refine va_zast C.1 C.2.1 C.2.2.2.2.2.2.2.1.1 hW (wl_D _ _ C.2.2.2.2.2.2.2.1.2.1) hS q 1 hwl rfl hx hd (fun H1 locs1 hP1 hD1 hS1 => ?_)
  rw [hj, hy', ← he, wl_set _ _ hq] at hP1
  exact kk H1 locs1 ls hP1 hS1 hl
theorem gx_cast (C : Cx X cc own ret fr lo nL Qc) {mm k i : Nat} (ok : okc mm k i) {n : Nat} (he : ∀ f, ce (tE X) k mm i f = .inl (eC (tE X) 2, n, .inl f)) {x y : Int32} (hx : vp_in x n) (j : Nat) (hj : x.toNatClampNeg = j) {y' : Int32} (hy' : vp_nar .char y = y') (hd : decode cc pc = .ok (.castore, 1)) (kk : G X (ua σ mm k i (upd (σ mm k i) j y')) lv st (pc + 1)) : G X σ lv (.int y :: .int x :: .ref (ad (tE X) mm k i) :: st) pc := by
  intro H locs ls hW hS hl
  obtain ⟨q, hq, hwl⟩ := wl_at (tE X) σ ok
  rw [he] at hwl
  refine va_cast C.1 C.2.1 C.2.2.2.2.2.2.2.1.1 hW (wl_D _ _ C.2.2.2.2.2.2.2.1.2.1) hS q 2 hwl rfl hx hd (fun H1 locs1 hP1 hD1 hS1 => ?_)
  rw [hj, hy', ← he, wl_set _ _ hq] at hP1
  exact kk H1 locs1 ls hP1 hS1 hl
theorem gx_iret {Q : Int32 → Sg → Prop} (C : Cx X cc own ret fr lo nL (QI (tE X) Q)) {ty : FieldType} (hret : ret = some ty) {v : Int32} (hn : narrow ty (.int v) = .int v) (hd : decode cc pc = .ok (.ireturn, 1)) (hq : Q v σ) : G X σ lv [.int v] pc := by
  intro H locs ls hW hS hl
  unfold GH
  rw [C.2.2.2.2.2.2.2.2.2.2]
  exact W.zret C.1 C.2.1 (C.2.2.1.trans hret) hn (fun t ht hWm => ⟨⟨v, σ, rfl, hq, by show WD (tE X) σ t.heap; rw [ht]; exact hW⟩, hS.F ht⟩) hS.2.2 hd C.2.2.2.2.2.1
theorem gx_vret {Q : Sg → Prop} (C : Cx X cc own none fr lo nL (QV (tE X) Q)) (hd : decode cc pc = .ok (.return_, 1)) (hq : Q σ) : G X σ lv [] pc := by
  intro H locs ls hW hS hl
  unfold GH
  rw [C.2.2.2.2.2.2.2.2.2.2]
  exact W.vret C.1 C.2.1 C.2.2.1 (fun t ht hWm => ⟨⟨σ, rfl, hq, by show WD (tE X) σ t.heap; rw [ht]; exact hW⟩, hS.F ht⟩) hS.2.2 hd C.2.2.2.2.2.1
end GR
end
section
section GC
variable {X : Tx} {cc : ByteArray} {own : String} {ret : Option FieldType} {fr lo nL : Nat} {Qc : Array Value → State → Outcome → State → Prop} {σ : Sg} {lv : List (Nat × Value)} {st : List Value} {pc : Nat}
theorem big_blind {E : Ev} {av : List Value} {σ : Sg} : FrameBlind (va_Pc av (fun U => WD E σ U.heap ∧ EV E U U.heap)) := fun a U g mk q => ⟨q.1, q.2.1, EV.same (u := U) (U := U.calling g mk a) rfl rfl q.2.2⟩
theorem big_pre {H : Heap} {locs : List Loc} {av : List Value} (C : Cx X cc own ret fr lo nL Qc) (hW : WD (tE X) σ H) (hS : va_S (eA (tE X)) (tS X).heap H locs) : ∀ U : State, U.heap = H → (tS X).WarmedH U.vm → va_Pc av (fun U => WD (tE X) σ U.heap ∧ EV (tE X) U U.heap) av.toArray U := fun U hU hWm => ⟨rfl, by rw [hU]; exact hW, EV.next C.2.2.2.2.2.2.2.1 hWm hS hU⟩
theorem big_recv {H : Heap} (C : Cx X cc own ret fr lo nL Qc) (hW : WD (tE X) σ H) {mm k i : Nat} (ok : okc mm k i) {ci : Nat} {fs : List Value} (he : ce (tE X) k mm i (σ mm k i) = .inr (ci, fs)) {q : vw_C} (hc : vwCl[ci]? = some q) : ∃ cell : Cell, H[ad (tE X) mm k i]? = some cell ∧ cell.vm.isStatics = false ∧ (tS X).vm.findClass q.1 = some cell.cls := va_recv C.2.2.2.2.2.2.2.1.1 (hW.cell ok he) hc (q0 := 0) rfl
theorem big_code {y : MethodName} {b : ByteArray} {n : Nat} {r : Option FieldType} (h : Cond.code y b n r ∈ BIG) : GoodIn BIG (Cond.code y b n r :: BIG) := fun w hw => (List.mem_cons.mp hw).elim (fun e => e ▸ big_GoodIn _ h) (big_GoodIn w)
theorem big_wsV {o C : String} {ix : Nat} {y : MethodName} {ws : List Cond} (h1 : Cond.methodLink o ix y ∈ BIG) (h2 : Cond.instanceMethod y ∈ BIG) (h3 : Cond.selects C y y ∈ BIG) (h4 : Cond.initialized C ∈ BIG) (h : GoodIn BIG ws) : GoodIn BIG (wsV o ix C y ws) := by
  intro w hw
  simp only [wsV, List.mem_append, List.mem_cons, List.not_mem_nil, or_false] at hw
  rcases hw with (rfl | rfl | rfl | rfl) | hw
  · exact big_GoodIn _ h1
  · exact big_GoodIn _ h2
  · exact big_GoodIn _ h3
  · exact big_GoodIn _ h4
  · exact h w hw
theorem big_wsS {o : String} {ix : Nat} {y : MethodName} {ws : List Cond} (h1 : Cond.methodLink o ix y ∈ BIG) (h2 : Cond.static y ∈ BIG) (h3 : Cond.initialized y.cls ∈ BIG) (h : GoodIn BIG ws) : GoodIn BIG (va_wsS o ix y ws) := by
  intro w hw
  simp only [va_wsS, List.mem_append, List.mem_cons, List.not_mem_nil, or_false] at hw
  rcases hw with (rfl | rfl | rfl) | hw
  · exact big_GoodIn _ h1
  · exact big_GoodIn _ h2
  · exact big_GoodIn _ h3
  · exact h w hw
theorem gx_vcalli (C : Cx X cc own ret fr lo nL Qc) {y : MethodName} {cc' : ByteArray} {nL' fr' lo' idx : Nat} {ty : FieldType} {Q : Int32 → Sg → Prop} {As rest : List Value} {mm k i : Nat} (hc : CT (tL X) (tE X) y cc' nL' (some ty) fr' lo' (.ref (ad (tE X) mm k i) :: As) σ (QI (tE X) Q)) (ok : okc mm k i) {ci : Nat} {fs : List Value} (he : ce (tE X) k mm i (σ mm k i) = .inr (ci, fs)) {q : vw_C} (hq : vwCl[ci]? = some q) (h1 : Cond.methodLink own idx y ∈ BIG) (h2 : Cond.instanceMethod y ∈ BIG) (h3 : Cond.selects q.1 y y ∈ BIG) (h4 : Cond.initialized q.1 ∈ BIG) (h5 : Cond.code y cc' nL' (some ty) ∈ BIG) (hy : y.cls = q.1 ∧ y.cls ≠ "java/lang/invoke/MethodHandle" ∧ y.cls ≠ "java/lang/invoke/VarHandle" ∧ (parseMethodDescriptor y.desc).map (fun d => d.parameters.length) = some As.length) (hR : fr' + 1 ≤ fr ∧ 8 + (nL' + 11) + lo' ≤ lo) (hst : st = As.reverse ++ .ref (ad (tE X) mm k i) :: rest) (hr : (rest.map fun v => v.category).sum ≤ 8) (hd : decode cc pc = .ok (.invokevirtual idx, 3)) (kk : ∀ (r : Int32) (σ' : Sg), Q r σ' → G X σ' lv (.int r :: rest) (pc + 3)) : G X σ lv st pc := by
  intro H locs ls hW hS hl
  subst hst
  exact va_calli (va_runV (As := As) (rest := rest) ⟨C.1, C.2.1, C.2.2.2.1, C.2.2.2.2.1, C.2.2.2.2.2.2.1⟩ hc (cwV As.length C.2.2.2.2.2.2.1 (big_wsV h1 h2 h3 h4 (big_code h5)) rfl rfl rfl hy (by rw [C.2.2.2.2.2.2.2.2.1]; exact hR)) ⟨big_blind, big_recv C hW ok he hq, big_pre C hW hS⟩ rfl rfl hl.1 rfl (lv_room hr) hd ⟨Nat.zero_le _, Nat.zero_le _⟩) hS (fun q _ h => h) (fun q h => h) (fun r u t H1 locs1 ht hvm hw hB hz1 hk1 hS1 => kk r u hw H1 locs1 ls (by rw [← ht]; exact hB) hS1 hl)
theorem gx_kcalli (C : Cx X cc own ret fr lo nL Qc) {y : MethodName} {cc' : ByteArray} {nL' fr' lo' idx : Nat} {ty : FieldType} {Q : Int32 → Sg → Prop} {As rest : List Value} {j : Nat} (hj : j < 7) (hc : CT (tL X) (tE X) y cc' nL' (some ty) fr' lo' (.ref (eK (tE X) j) :: As) σ (QI (tE X) Q)) (h1 : Cond.methodLink own idx y ∈ BIG) (h2 : Cond.instanceMethod y ∈ BIG) (h3 : Cond.selects "java/lang/String" y y ∈ BIG) (h4 : Cond.initialized "java/lang/String" ∈ BIG) (h5 : Cond.code y cc' nL' (some ty) ∈ BIG) (hy : y.cls = "java/lang/String" ∧ y.cls ≠ "java/lang/invoke/MethodHandle" ∧ y.cls ≠ "java/lang/invoke/VarHandle" ∧ (parseMethodDescriptor y.desc).map (fun d => d.parameters.length) = some As.length) (hR : fr' + 1 ≤ fr ∧ 8 + (nL' + 11) + lo' ≤ lo) (hst : st = As.reverse ++ .ref (eK (tE X) j) :: rest) (hr : (rest.map fun v => v.category).sum ≤ 8) (hd : decode cc pc = .ok (.invokevirtual idx, 3)) (kk : ∀ (r : Int32) (σ' : Sg), Q r σ' → G X σ' lv (.int r :: rest) (pc + 3)) : G X σ lv st pc := by
  intro H locs ls hW hS hl
  subst hst
  exact va_calli (va_runV (As := As) (rest := rest) ⟨C.1, C.2.1, C.2.2.2.1, C.2.2.2.2.1, C.2.2.2.2.2.2.1⟩ hc (cwV As.length C.2.2.2.2.2.2.1 (big_wsV h1 h2 h3 h4 (big_code h5)) rfl rfl rfl hy (by rw [C.2.2.2.2.2.2.2.2.1]; exact hR)) ⟨big_blind, vk_recv C.2.2.2.2.2.2.2.1.2.2.2.2.2.2.2.2.1 hj hS, big_pre C hW hS⟩ rfl rfl hl.1 rfl (lv_room hr) hd ⟨Nat.zero_le _, Nat.zero_le _⟩) hS (fun q _ h => h) (fun q h => h) (fun r u t H1 locs1 ht hvm hw hB hz1 hk1 hS1 => kk r u hw H1 locs1 ls (by rw [← ht]; exact hB) hS1 hl)
theorem gx_scalli (C : Cx X cc own ret fr lo nL Qc) {y : MethodName} {cc' : ByteArray} {nL' fr' lo' idx : Nat} {ty : FieldType} {Q : Int32 → Sg → Prop} {As rest : List Value} (hc : CT (tL X) (tE X) y cc' nL' (some ty) fr' lo' As σ (QI (tE X) Q)) (h1 : Cond.methodLink own idx y ∈ BIG) (h2 : Cond.static y ∈ BIG) (h4 : Cond.initialized y.cls ∈ BIG) (h5 : Cond.code y cc' nL' (some ty) ∈ BIG) (hy : y.cls ≠ "java/lang/invoke/MethodHandle" ∧ y.cls ≠ "java/lang/invoke/VarHandle" ∧ (parseMethodDescriptor y.desc).map (fun d => d.parameters.length) = some As.length) (hR : fr' + 1 ≤ fr ∧ 8 + (nL' + 11) + lo' ≤ lo) (hst : st = As.reverse ++ rest) (hr : (rest.map fun v => v.category).sum ≤ 8) (hd : decode cc pc = .ok (.invokestatic idx, 3)) (kk : ∀ (r : Int32) (σ' : Sg), Q r σ' → G X σ' lv (.int r :: rest) (pc + 3)) : G X σ lv st pc := by
  intro H locs ls hW hS hl
  subst hst
  exact va_calli (va_runS (As := As) (rest := rest) ⟨C.1, C.2.1, C.2.2.2.1, C.2.2.2.2.1, C.2.2.2.2.2.2.1⟩ hc (va_cwS As.length C.2.2.2.2.2.2.1 (big_wsS h1 h2 h4 (big_code h5)) rfl rfl rfl hy (by rw [C.2.2.2.2.2.2.2.2.1]; exact hR)) ⟨big_blind, big_pre C hW hS⟩ rfl rfl hl.1 rfl (lv_room hr) hd ⟨Nat.zero_le _, Nat.zero_le _⟩) hS (fun q _ h => h) (fun q h => h) (fun r u t H1 locs1 ht hvm hw hB hz1 hk1 hS1 => kk r u hw H1 locs1 ls (by rw [← ht]; exact hB) hS1 hl)
theorem gx_ncalli (C : Cx X cc own ret fr lo nL Qc) {y : MethodName} {cc' : ByteArray} {nL' fr' lo' idx : Nat} {host : String} {ty : FieldType} {Q : Int32 → Sg → Prop} {As rest : List Value} (hc : CT (tL X) (tE X) y cc' nL' (some ty) fr' lo' As σ (QI (tE X) Q)) (h1 : Cond.methodLinkNest own idx y host ∈ tables_1) (h2 : Cond.static y ∈ BIG) (h4 : Cond.initialized y.cls ∈ BIG) (h5 : Cond.code y cc' nL' (some ty) ∈ BIG) (hy : y.cls ≠ "java/lang/invoke/MethodHandle" ∧ y.cls ≠ "java/lang/invoke/VarHandle" ∧ (parseMethodDescriptor y.desc).map (fun d => d.parameters.length) = some As.length) (hR : fr' + 1 ≤ fr ∧ 8 + (nL' + 11) + lo' ≤ lo) (hst : st = As.reverse ++ rest) (hr : (rest.map fun v => v.category).sum ≤ 8) (hd : decode cc pc = .ok (.invokestatic idx, 3)) (kk : ∀ (r : Int32) (σ' : Sg), Q r σ' → G X σ' lv (.int r :: rest) (pc + 3)) : G X σ lv st pc := by
  intro H locs ls hW hS hl
  subst hst
  exact va_calli (va_runSN (As := As) (rest := rest) ⟨C.1, C.2.1, C.2.2.2.1, C.2.2.2.2.1, C.2.2.2.2.2.2.1⟩ hc ⟨va_cnB As.length C.2.2.2.2.2.2.1 (big_code h5) rfl rfl rfl (C.2.2.2.2.2.2.2.1.2.2.1 _ _ _ _ h1) (C.2.2.2.2.2.2.1 _ h4) hy (by rw [C.2.2.2.2.2.2.2.2.1]; exact hR), C.2.2.2.2.2.2.1 _ h2, trivial⟩ ⟨big_blind, big_pre C hW hS⟩ rfl rfl hl.1 rfl (lv_room hr) hd ⟨Nat.zero_le _, Nat.zero_le _⟩) hS (fun q _ h => h) (fun q h => h) (fun r u t H1 locs1 ht hvm hw hB hz1 hk1 hS1 => kk r u hw H1 locs1 ls (by rw [← ht]; exact hB) hS1 hl)
theorem gx_vcallv (C : Cx X cc own ret fr lo nL Qc) {y : MethodName} {cc' : ByteArray} {nL' fr' lo' idx : Nat} {Q : Sg → Prop} {As rest : List Value} {mm k i : Nat} (hc : CT (tL X) (tE X) y cc' nL' none fr' lo' (.ref (ad (tE X) mm k i) :: As) σ (QV (tE X) Q)) (ok : okc mm k i) {ci : Nat} {fs : List Value} (he : ce (tE X) k mm i (σ mm k i) = .inr (ci, fs)) {q : vw_C} (hq : vwCl[ci]? = some q) (h1 : Cond.methodLink own idx y ∈ BIG) (h2 : Cond.instanceMethod y ∈ BIG) (h3 : Cond.selects q.1 y y ∈ BIG) (h4 : Cond.initialized q.1 ∈ BIG) (h5 : Cond.code y cc' nL' none ∈ BIG) (hy : y.cls = q.1 ∧ y.cls ≠ "java/lang/invoke/MethodHandle" ∧ y.cls ≠ "java/lang/invoke/VarHandle" ∧ (parseMethodDescriptor y.desc).map (fun d => d.parameters.length) = some As.length) (hR : fr' + 1 ≤ fr ∧ 8 + (nL' + 11) + lo' ≤ lo) (hst : st = As.reverse ++ .ref (ad (tE X) mm k i) :: rest) (hr : (rest.map fun v => v.category).sum ≤ 8) (hd : decode cc pc = .ok (.invokevirtual idx, 3)) (kk : ∀ σ' : Sg, Q σ' → G X σ' lv rest (pc + 3)) : G X σ lv st pc := by
  intro H locs ls hW hS hl
  subst hst
  exact va_callv (va_runV (As := As) (rest := rest) ⟨C.1, C.2.1, C.2.2.2.1, C.2.2.2.2.1, C.2.2.2.2.2.2.1⟩ hc (cwV As.length C.2.2.2.2.2.2.1 (big_wsV h1 h2 h3 h4 (big_code h5)) rfl rfl rfl hy (by rw [C.2.2.2.2.2.2.2.2.1]; exact hR)) ⟨big_blind, big_recv C hW ok he hq, big_pre C hW hS⟩ rfl rfl hl.1 rfl (lv_room hr) hd ⟨Nat.zero_le _, Nat.zero_le _⟩) hS (fun q _ h => h) (fun q h => h) (fun u t H1 locs1 ht hvm hw hB hz1 hk1 hS1 => kk u hw H1 locs1 ls (by rw [← ht]; exact hB) hS1 hl)
theorem gx_kcallv (C : Cx X cc own ret fr lo nL Qc) {y : MethodName} {cc' : ByteArray} {nL' fr' lo' idx : Nat} {Q : Sg → Prop} {As rest : List Value} {j : Nat} (hj : j < 7) (hc : CT (tL X) (tE X) y cc' nL' none fr' lo' (.ref (eK (tE X) j) :: As) σ (QV (tE X) Q)) (h1 : Cond.methodLink own idx y ∈ BIG) (h2 : Cond.instanceMethod y ∈ BIG) (h3 : Cond.selects "java/lang/String" y y ∈ BIG) (h4 : Cond.initialized "java/lang/String" ∈ BIG) (h5 : Cond.code y cc' nL' none ∈ BIG) (hy : y.cls = "java/lang/String" ∧ y.cls ≠ "java/lang/invoke/MethodHandle" ∧ y.cls ≠ "java/lang/invoke/VarHandle" ∧ (parseMethodDescriptor y.desc).map (fun d => d.parameters.length) = some As.length) (hR : fr' + 1 ≤ fr ∧ 8 + (nL' + 11) + lo' ≤ lo) (hst : st = As.reverse ++ .ref (eK (tE X) j) :: rest) (hr : (rest.map fun v => v.category).sum ≤ 8) (hd : decode cc pc = .ok (.invokevirtual idx, 3)) (kk : ∀ σ' : Sg, Q σ' → G X σ' lv rest (pc + 3)) : G X σ lv st pc := by
  intro H locs ls hW hS hl
  subst hst
  exact va_callv (va_runV (As := As) (rest := rest) ⟨C.1, C.2.1, C.2.2.2.1, C.2.2.2.2.1, C.2.2.2.2.2.2.1⟩ hc (cwV As.length C.2.2.2.2.2.2.1 (big_wsV h1 h2 h3 h4 (big_code h5)) rfl rfl rfl hy (by rw [C.2.2.2.2.2.2.2.2.1]; exact hR)) ⟨big_blind, vk_recv C.2.2.2.2.2.2.2.1.2.2.2.2.2.2.2.2.1 hj hS, big_pre C hW hS⟩ rfl rfl hl.1 rfl (lv_room hr) hd ⟨Nat.zero_le _, Nat.zero_le _⟩) hS (fun q _ h => h) (fun q h => h) (fun u t H1 locs1 ht hvm hw hB hz1 hk1 hS1 => kk u hw H1 locs1 ls (by rw [← ht]; exact hB) hS1 hl)
theorem gx_scallv (C : Cx X cc own ret fr lo nL Qc) {y : MethodName} {cc' : ByteArray} {nL' fr' lo' idx : Nat} {Q : Sg → Prop} {As rest : List Value} (hc : CT (tL X) (tE X) y cc' nL' none fr' lo' As σ (QV (tE X) Q)) (h1 : Cond.methodLink own idx y ∈ BIG) (h2 : Cond.static y ∈ BIG) (h4 : Cond.initialized y.cls ∈ BIG) (h5 : Cond.code y cc' nL' none ∈ BIG) (hy : y.cls ≠ "java/lang/invoke/MethodHandle" ∧ y.cls ≠ "java/lang/invoke/VarHandle" ∧ (parseMethodDescriptor y.desc).map (fun d => d.parameters.length) = some As.length) (hR : fr' + 1 ≤ fr ∧ 8 + (nL' + 11) + lo' ≤ lo) (hst : st = As.reverse ++ rest) (hr : (rest.map fun v => v.category).sum ≤ 8) (hd : decode cc pc = .ok (.invokestatic idx, 3)) (kk : ∀ σ' : Sg, Q σ' → G X σ' lv rest (pc + 3)) : G X σ lv st pc := by
  intro H locs ls hW hS hl
  subst hst
  exact va_callv (va_runS (As := As) (rest := rest) ⟨C.1, C.2.1, C.2.2.2.1, C.2.2.2.2.1, C.2.2.2.2.2.2.1⟩ hc (va_cwS As.length C.2.2.2.2.2.2.1 (big_wsS h1 h2 h4 (big_code h5)) rfl rfl rfl hy (by rw [C.2.2.2.2.2.2.2.2.1]; exact hR)) ⟨big_blind, big_pre C hW hS⟩ rfl rfl hl.1 rfl (lv_room hr) hd ⟨Nat.zero_le _, Nat.zero_le _⟩) hS (fun q _ h => h) (fun q h => h) (fun u t H1 locs1 ht hvm hw hB hz1 hk1 hS1 => kk u hw H1 locs1 ls (by rw [← ht]; exact hB) hS1 hl)
theorem gx_ncallv (C : Cx X cc own ret fr lo nL Qc) {y : MethodName} {cc' : ByteArray} {nL' fr' lo' idx : Nat} {host : String} {Q : Sg → Prop} {As rest : List Value} (hc : CT (tL X) (tE X) y cc' nL' none fr' lo' As σ (QV (tE X) Q)) (h1 : Cond.methodLinkNest own idx y host ∈ tables_1) (h2 : Cond.static y ∈ BIG) (h4 : Cond.initialized y.cls ∈ BIG) (h5 : Cond.code y cc' nL' none ∈ BIG) (hy : y.cls ≠ "java/lang/invoke/MethodHandle" ∧ y.cls ≠ "java/lang/invoke/VarHandle" ∧ (parseMethodDescriptor y.desc).map (fun d => d.parameters.length) = some As.length) (hR : fr' + 1 ≤ fr ∧ 8 + (nL' + 11) + lo' ≤ lo) (hst : st = As.reverse ++ rest) (hr : (rest.map fun v => v.category).sum ≤ 8) (hd : decode cc pc = .ok (.invokestatic idx, 3)) (kk : ∀ σ' : Sg, Q σ' → G X σ' lv rest (pc + 3)) : G X σ lv st pc := by
  intro H locs ls hW hS hl
  subst hst
  exact va_callv (va_runSN (As := As) (rest := rest) ⟨C.1, C.2.1, C.2.2.2.1, C.2.2.2.2.1, C.2.2.2.2.2.2.1⟩ hc ⟨va_cnB As.length C.2.2.2.2.2.2.1 (big_code h5) rfl rfl rfl (C.2.2.2.2.2.2.2.1.2.2.1 _ _ _ _ h1) (C.2.2.2.2.2.2.1 _ h4) hy (by rw [C.2.2.2.2.2.2.2.2.1]; exact hR), C.2.2.2.2.2.2.1 _ h2, trivial⟩ ⟨big_blind, big_pre C hW hS⟩ rfl rfl hl.1 rfl (lv_room hr) hd ⟨Nat.zero_le _, Nat.zero_le _⟩) hS (fun q _ h => h) (fun q h => h) (fun u t H1 locs1 ht hvm hw hB hz1 hk1 hS1 => kk u hw H1 locs1 ls (by rw [← ht]; exact hB) hS1 hl)
theorem gx_mmax (C : Cx X cc own ret fr lo nL Qc) {x y : Int32} {idx : Nat} (hd : decode cc pc = .ok (.invokestatic idx, 3)) (h1 : Cond.methodLink own idx Lib.Math.max.name ∈ BIG) (h2 : Cond.static Lib.Math.max.name ∈ BIG) (h3 : Cond.initialized "java/lang/Math" ∈ BIG) (h4 : Cond.code Lib.Math.max.name Lib.Math.max.code 2 (some .int) ∈ BIG) (hR : 1 ≤ fr ∧ (st.map fun v => v.category).sum + 13 ≤ lo) (kk : G X σ lv (.int (if x < y then y else x) :: st) (pc + 3)) : G X σ lv (.int y :: .int x :: st) pc := fun H locs ls hW hS hl => va_mmax C.1 C.2.1 (C.2.2.2.1.trans hl.1.symm) C.2.2.2.2.1 (C.2.2.2.2.2.2.1 _ h1) (C.2.2.2.2.2.2.1 _ h2) (C.2.2.2.2.2.2.1 _ h3) (C.2.2.2.2.2.2.1 _ h4) (by rw [C.2.2.2.2.2.2.2.2.1]; exact hR.1) (by rw [C.2.2.2.2.2.2.2.2.1]; exact hR.2) (Nat.zero_le _) (Nat.zero_le _) hd (kk H locs ls hW hS hl)
theorem gx_mmin (C : Cx X cc own ret fr lo nL Qc) {x y : Int32} {idx : Nat} (hd : decode cc pc = .ok (.invokestatic idx, 3)) (h1 : Cond.methodLink own idx Lib.Math.min.name ∈ BIG) (h2 : Cond.static Lib.Math.min.name ∈ BIG) (h3 : Cond.initialized "java/lang/Math" ∈ BIG) (h4 : Cond.code Lib.Math.min.name Lib.Math.min.code 2 (some .int) ∈ BIG) (hR : 1 ≤ fr ∧ (st.map fun v => v.category).sum + 13 ≤ lo) (kk : G X σ lv (.int (if y < x then y else x) :: st) (pc + 3)) : G X σ lv (.int y :: .int x :: st) pc := fun H locs ls hW hS hl => va_mmin C.1 C.2.1 (C.2.2.2.1.trans hl.1.symm) C.2.2.2.2.1 (C.2.2.2.2.2.2.1 _ h1) (C.2.2.2.2.2.2.1 _ h2) (C.2.2.2.2.2.2.1 _ h3) (C.2.2.2.2.2.2.1 _ h4) (by rw [C.2.2.2.2.2.2.2.2.1]; exact hR.1) (by rw [C.2.2.2.2.2.2.2.2.1]; exact hR.2) (Nat.zero_le _) (Nat.zero_le _) hd (kk H locs ls hW hS hl)
theorem gx_copy (C : Cx X cc own ret fr lo nL Qc) {m1 k1 i1 m2 k2 i2 : Nat} (ok1 : okc m1 k1 i1) (ok2 : okc m2 k2 i2) {n1 n2 idx : Nat} {n : Int32} (he1 : ∀ f, ce (tE X) k1 m1 i1 f = .inl (eC (tE X) 0, n1, .inl f)) (he2 : ∀ f, ce (tE X) k2 m2 i2 f = .inl (eC (tE X) 0, n2, .inl f)) (hn : ¬ n < 0) (hn1 : n.toNatClampNeg ≤ n1) (hn2 : n.toNatClampNeg ≤ n2) (hd : decode cc pc = .ok (.invokestatic idx, 3)) (h1 : Cond.methodLink own idx arraycopyName ∈ BIG) (h2 : Cond.native arraycopyName ∈ BIG) (h3 : Cond.static arraycopyName ∈ BIG) (h4 : Cond.initialized "java/lang/System" ∈ BIG) (hR : 1 ≤ fr ∧ (st.map fun v => v.category).sum + (nativeFrameWords "java/lang/System" "arraycopy" 5 + 11) ≤ lo) (kk : G X (ua σ m2 k2 i2 (va_cpy (σ m1 k1 i1) (σ m2 k2 i2) 0 0 n.toNatClampNeg)) lv st (pc + 3)) : G X σ lv (.int n :: .int 0 :: .ref (ad (tE X) m2 k2 i2) :: .int 0 :: .ref (ad (tE X) m1 k1 i1) :: st) pc := by
  intro H locs ls hW hS hl
  obtain ⟨q1, -, hw1⟩ := wl_at (tE X) σ ok1
  obtain ⟨q2, hq2, hw2⟩ := wl_at (tE X) σ ok2
  rw [he1] at hw1
  rw [he2] at hw2
  have z : (0 : Int32).toNatClampNeg = 0 := by decide
  refine va_copyi C.1 C.2.1 (C.2.2.2.1.trans hl.1.symm) C.2.2.2.2.1 (C.2.2.2.2.2.2.1 _ h1) (C.2.2.2.2.2.2.1 _ h2) (C.2.2.2.2.2.2.1 _ h3) (C.2.2.2.2.2.2.1 _ h4) C.2.2.2.2.2.2.2.1.1 hW (wl_D _ _ C.2.2.2.2.2.2.2.1.2.1) hS q1 q2 0 0 hw1 hw2 rfl rfl rfl (by decide) (by decide) hn (by rw [z, Nat.zero_add]; exact hn1) (by rw [z, Nat.zero_add]; exact hn2) (fun _ _ => rfl) (by rw [C.2.2.2.2.2.2.2.2.1]; exact hR.1) (by rw [C.2.2.2.2.2.2.2.2.1]; exact hR.2) hd (fun H1 locs1 hP1 hD1 hS1 => ?_)
  rw [z, ← he2, wl_set _ _ hq2] at hP1
  exact kk H1 locs1 ls hP1 hS1 hl
theorem gx_gets0 (C : Cx X cc own ret fr lo nL Qc) {idx : Nat} (hd : decode cc pc = .ok (.getstatic idx, 3)) (h1 : Cond.fieldLink own idx "SweetWraps" "LEAST_OF_SETTING" "[I" ∈ BIG) (kk : G X σ lv (.ref (eT (tE X) 0) :: st) (pc + 3)) : G X σ lv st pc := fun H locs ls hW hS hl => va_gets C.1 C.2.1 C.2.2.2.2.2.2.2.1.2.2.2.2.1 hS C.2.2.2.2.1 (C.2.2.2.2.2.2.1 _ h1) (fun _ h => h) hd (kk H locs ls hW hS hl)
theorem gx_getsN0 (C : Cx X cc own ret fr lo nL Qc) {idx : Nat} (hd : decode cc pc = .ok (.getstatic idx, 3)) (h1 : Cond.fieldLinkNest own idx "SweetWraps" "LEAST_OF_SETTING" "[I" "SweetWraps" ∈ tables_1) (kk : G X σ lv (.ref (eT (tE X) 0) :: st) (pc + 3)) : G X σ lv st pc := fun H locs ls hW hS hl => va_getsN C.1 C.2.1 C.2.2.2.2.2.2.2.1.2.2.2.2.1 hS C.2.2.2.2.1 (va_Nw.use rfl (C.2.2.2.2.2.2.2.1.2.2.2.1 _ _ _ _ _ _ h1)) (fun _ h => h) hd (kk H locs ls hW hS hl)
theorem gx_tab0 (C : Cx X cc own ret fr lo nL Qc) {x : Int32} (hx : vp_in x 4) (hd : decode cc pc = .ok (.iaload, 1)) (kk : G X σ lv (.int (lst x.toNatClampNeg) :: st) (pc + 1)) : G X σ lv (.int x :: .ref (eT (tE X) 0) :: st) pc := fun H locs ls hW hS hl => va_ti C.1 C.2.1 C.2.2.2.2.2.2.2.1.2.2.2.2.2.1 hS hx rfl hd (kk H locs ls hW hS hl)
theorem gx_gets1 (C : Cx X cc own ret fr lo nL Qc) {idx : Nat} (hd : decode cc pc = .ok (.getstatic idx, 3)) (h1 : Cond.fieldLink own idx "SweetWraps" "MOST_OF_SETTING" "[I" ∈ BIG) (kk : G X σ lv (.ref (eT (tE X) 1) :: st) (pc + 3)) : G X σ lv st pc := fun H locs ls hW hS hl => va_gets C.1 C.2.1 C.2.2.2.2.2.2.2.1.2.2.2.2.2.2.1 hS C.2.2.2.2.1 (C.2.2.2.2.2.2.1 _ h1) (fun _ h => h) hd (kk H locs ls hW hS hl)
theorem gx_getsN1 (C : Cx X cc own ret fr lo nL Qc) {idx : Nat} (hd : decode cc pc = .ok (.getstatic idx, 3)) (h1 : Cond.fieldLinkNest own idx "SweetWraps" "MOST_OF_SETTING" "[I" "SweetWraps" ∈ tables_1) (kk : G X σ lv (.ref (eT (tE X) 1) :: st) (pc + 3)) : G X σ lv st pc := fun H locs ls hW hS hl => va_getsN C.1 C.2.1 C.2.2.2.2.2.2.2.1.2.2.2.2.2.2.1 hS C.2.2.2.2.1 (va_Nw.use rfl (C.2.2.2.2.2.2.2.1.2.2.2.1 _ _ _ _ _ _ h1)) (fun _ h => h) hd (kk H locs ls hW hS hl)
theorem gx_tab1 (C : Cx X cc own ret fr lo nL Qc) {x : Int32} (hx : vp_in x 4) (hd : decode cc pc = .ok (.iaload, 1)) (kk : G X σ lv (.int (mst x.toNatClampNeg) :: st) (pc + 1)) : G X σ lv (.int x :: .ref (eT (tE X) 1) :: st) pc := fun H locs ls hW hS hl => va_ti C.1 C.2.1 C.2.2.2.2.2.2.2.1.2.2.2.2.2.2.2.1 hS hx rfl hd (kk H locs ls hW hS hl)
theorem gx_ldcS (C : Cx X cc own ret fr lo nL Qc) {idx : Nat} (j : Nat) (hj : j < 7) (hi : scI.getD j 0 = idx) (ho : own = "SweetWraps$Pad") (hd : decode cc pc = .ok (.ldc idx, 2)) (kk : G X σ lv (.ref (eK (tE X) j) :: st) (pc + 2)) : G X σ lv st pc := fun H locs ls hW hS hl => va_ldcS (own := "SweetWraps$Pad") (tx := scT.getD j "") C.1 C.2.1 (by rw [← ho]; exact C.2.2.2.2.1) (by rw [← hi]; exact C.2.2.2.2.2.2.2.1.2.2.2.2.2.2.2.2.2.1 j hj) hd (kk H locs ls hW hS hl)
theorem gx_coder (C : Cx X cc own ret fr lo nL Qc) {idx j : Nat} (hj : j < 7) (hw : Cond.fieldLink own idx "java/lang/String" "coder" "B" ∈ BIG) (hd : decode cc pc = .ok (.getfield idx, 3)) (kk : G X σ lv (.int 0 :: st) (pc + 3)) : G X σ lv (.ref (eK (tE X) j) :: st) pc := fun H locs ls hW hS hl => vk_getf C.1 C.2.1 (C.2.2.2.2.2.2.2.1.2.2.2.2.2.2.2.2.1.1 j hj).2.1 hS C.2.2.2.2.1 (C.2.2.2.2.2.2.1 _ hw) (fun _ h => h) hd (kk H locs ls hW hS hl)
theorem gx_value (C : Cx X cc own ret fr lo nL Qc) {idx j : Nat} (hj : j < 7) (hw : Cond.fieldLink own idx "java/lang/String" "value" "[B" ∈ BIG) (hd : decode cc pc = .ok (.getfield idx, 3)) (kk : G X σ lv (.ref (eV (tE X) j) :: st) (pc + 3)) : G X σ lv (.ref (eK (tE X) j) :: st) pc := fun H locs ls hW hS hl => vk_getf C.1 C.2.1 (C.2.2.2.2.2.2.2.1.2.2.2.2.2.2.2.2.1.1 j hj).2.2.1 hS C.2.2.2.2.1 (C.2.2.2.2.2.2.1 _ hw) (fun _ h => h) hd (kk H locs ls hW hS hl)
theorem gx_vlen (C : Cx X cc own ret fr lo nL Qc) {j : Nat} (hj : j < 7) (hd : decode cc pc = .ok (.arraylength, 1)) (kk : G X σ lv (.int (nI (scL.getD j 0)) :: st) (pc + 1)) : G X σ lv (.ref (eV (tE X) j) :: st) pc := fun H locs ls hW hS hl => va_tlen C.1 C.2.1 (C.2.2.2.2.2.2.2.1.2.2.2.2.2.2.2.2.1.1 j hj).2.2.2 hS rfl hd (kk H locs ls hW hS hl)
theorem gx_vald (C : Cx X cc own ret fr lo nL Qc) {j : Nat} (hj : j < 7) {x : Int32} (hx : vp_in x (scL.getD j 0)) (hd : decode cc pc = .ok (.baload, 1)) (kk : G X σ lv (.int ((scB.getD j []).getD x.toNatClampNeg 0) :: st) (pc + 1)) : G X σ lv (.int x :: .ref (eV (tE X) j) :: st) pc := fun H locs ls hW hS hl => va_tb C.1 C.2.1 (C.2.2.2.2.2.2.2.1.2.2.2.2.2.2.2.2.1.1 j hj).2.2.2 hS hx rfl hd (kk H locs ls hW hS hl)
theorem gx_compact (C : Cx X cc own ret fr lo nL Qc) {idx : Nat} (hw : Cond.fieldLink own idx "java/lang/String" "COMPACT_STRINGS" "Z" ∈ BIG) (hd : decode cc pc = .ok (.getstatic idx, 3)) (kk : G X σ lv (.int 1 :: st) (pc + 3)) : G X σ lv st pc := fun H locs ls hW hS hl => va_gets C.1 C.2.1 C.2.2.2.2.2.2.2.1.2.2.2.2.2.2.2.2.2.2.1 hS C.2.2.2.2.1 (C.2.2.2.2.2.2.1 _ hw) (fun _ h => h) hd (kk H locs ls hW hS hl)
end GC
end
section
/-! What the decompiled methods rest on: loops, places, small values, the methods that are walked by hand. -/
/-- a loop, some rounds deep -/
def lpN {α : Type} (F : (α → Prop) → α → Prop) : Nat → α → Prop
  | 0 => fun _ => False
  | n + 1 => F (lpN F n)
theorem lpN_G {α : Type} {F : (α → Prop) → α → Prop} {P : α → Prop} (h : ∀ (K : α → Prop) (a : α), (∀ a', K a' → P a') → F K a → P a) : ∀ (n : Nat) (a : α), lpN F n a → P a := by
  intro n
  induction n with
  | zero => intro a h0; exact h0.elim
  | succ n ih => intro a h1; exact h _ a ih h1
/-- a loop by an invariant and a measure that falls -/
theorem lpN_of {α : Type} {F : (α → Prop) → α → Prop} (J : α → Prop) (μ : α → Nat) (h : ∀ (K : α → Prop) (a : α), J a → (∀ a', J a' → μ a' < μ a → K a') → F K a) : ∀ a, J a → ∃ n, lpN F n a := by
  have key : ∀ (n : Nat) (a : α), J a → μ a < n → lpN F n a := by
    intro n
    induction n with
    | zero => intro a _ h0; exact absurd h0 (Nat.not_lt_zero _)
    | succ n ih => intro a ha hn; exact h _ a ha (fun a' h1 h2 => ih a' h1 (by omega))
  exact fun a ha => ⟨μ a + 1, key _ a ha (Nat.lt_succ_self _)⟩
theorem vp_lt {x : Int32} {n : Nat} (h : vp_in x n) : x.toNatClampNeg < n := Nat.not_le.mp fun q => h (Or.inr q)
theorem nb_bool {x : Int32} (h : x = 0 ∨ x = 1) : narrow .boolean (.int x) = .int x := by rcases h with rfl | rfl <;> rfl
theorem fb_bool {x : Int32} (h : x = 0 ∨ x = 1) : fits .boolean (.int x) = true := by rcases h with rfl | rfl <;> rfl
theorem okg_10 : okc 11 10 0 := ok10 (k := 0) (by decide)
theorem okg_11 : okc 11 11 0 := ok10 (k := 1) (by decide)
theorem okg_12 : okc 11 12 0 := ok10 (k := 2) (by decide)
theorem okg_13 : okc 11 13 0 := ok10 (k := 3) (by decide)
theorem okg_14 : okc 11 14 0 := ok10 (k := 4) (by decide)
theorem okg_15 : okc 11 15 0 := ok10 (k := 5) (by decide)
theorem okg_16 : okc 11 16 0 := ok10 (k := 6) (by decide)
theorem okg_17 : okc 11 17 0 := ok10 (k := 7) (by decide)
theorem okg_18 : okc 12 18 0 := ok18 (k := 0) (by decide)
theorem okg_19 : okc 12 19 0 := ok18 (k := 1) (by decide)
theorem okg_20 : okc 12 20 0 := ok18 (k := 2) (by decide)
theorem okg_21 : okc 12 21 0 := ok18 (k := 3) (by decide)
theorem okg_22 : okc 12 22 0 := ok18 (k := 4) (by decide)
theorem okg_23 : okc 12 23 0 := ok18 (k := 5) (by decide)
theorem okg_24 : okc 12 24 0 := ok18 (k := 6) (by decide)
theorem okg_25 : okc 12 25 0 := ok18 (k := 7) (by decide)
theorem in_big (ws : List Cond) (h : ws.all (fun w => decide (w ∈ tables_1) && goodWord w) = true) : ∀ w ∈ ws, w ∈ BIG := fun w hw => by
  have h1 := List.all_eq_true.mp h w hw
  simp only [Bool.and_eq_true, decide_eq_true_eq] at h1
  exact List.mem_filter.mpr ⟨List.mem_append_right _ h1.1, h1.2⟩
theorem inX0 : ∀ w ∈ u_ws RX0 TX0 3, w ∈ BIG := in_big _ (by decide +kernel)
theorem inX1 : ∀ w ∈ u_ws RX1 TX1 8, w ∈ BIG := in_big _ (by decide +kernel)
theorem inX2 : ∀ w ∈ u_ws RX2 TX2 8, w ∈ BIG := in_big _ (by decide +kernel)
theorem inX3 : ∀ w ∈ u_ws RX3 TX3 6, w ∈ BIG := in_big _ (by decide +kernel)
theorem inX4 : ∀ w ∈ u_ws RX4 TX4 4, w ∈ BIG := in_big _ (by decide +kernel)
theorem inX5 : ∀ w ∈ u_ws RX5 TX5 6, w ∈ BIG := in_big _ (by decide +kernel)
theorem inX6 : ∀ w ∈ u_ws RX6 TX6 11, w ∈ BIG := in_big _ (by decide +kernel)
theorem nest_in (w : Cond) (h : w ∈ tables_1) : w ∈ tables_1 := h
theorem nI_back {m : Nat} (h : m < 11) : (nI m).toNatClampNeg = m := nI_clamp (by omega)
theorem ce_prep (E : Ev) (f : Nat → Int32) {m : Nat} (h : m < 11) : ce E 11 11 0 (upd f 1 (nI m)) = .inr (0, ([.ref (ad E 11 12 0), .ref (ad E (f 1).toNatClampNeg 0 0), .int (f 2)] : List Value).set 1 (.ref (ad E m 0 0))) := by
  show (Sum.inr (0, [.ref (ad E 11 12 0), .ref (ad E (nI m).toNatClampNeg 0 0), .int (f 2)]) : va_E) = _
  rw [nI_back h]
  rfl
section BS
variable {X : Tx} {cc : ByteArray} {own : String} {ret : Option FieldType} {fr lo nL : Nat} {Qc : Array Value → State → Outcome → State → Prop} {σ : Sg} {lv : List (Nat × Value)} {st : List Value} {pc : Nat}
theorem gx_st {σ' : Sg} {m k i j : Nat} {x : Int32} (e : σ' = up σ m k i j x) (kk : G X σ' lv st pc) : G X (ua σ m k i (upd (σ m k i) j x)) lv st pc := by
  subst e
  exact kk
theorem gx_sg {τ σ' : Sg} (e : σ' = τ) (kk : G X σ' lv st pc) : G X τ lv st pc := e ▸ kk
end BS
end
section
theorem dX5_isIndex_0 : decode cX5_isIndex 0 = .ok (.iload_n 0, 1) := by decide +kernel
theorem dX5_isIndex_1 : decode cX5_isIndex 1 = .ok (.ifCond .lt 12, 3) := by decide +kernel
theorem dX5_isIndex_4 : decode cX5_isIndex 4 = .ok (.iload_n 0, 1) := by decide +kernel
theorem dX5_isIndex_5 : decode cX5_isIndex 5 = .ok (.iload_n 1, 1) := by decide +kernel
theorem dX5_isIndex_6 : decode cX5_isIndex 6 = .ok (.if_icmp .ge 7, 3) := by decide +kernel
theorem dX5_isIndex_9 : decode cX5_isIndex 9 = .ok (.iconst 1, 1) := by decide +kernel
theorem dX5_isIndex_10 : decode cX5_isIndex 10 = .ok (.goto 4, 3) := by decide +kernel
theorem dX5_isIndex_13 : decode cX5_isIndex 13 = .ok (.iconst 0, 1) := by decide +kernel
theorem dX5_isIndex_14 : decode cX5_isIndex 14 = .ok (.ireturn, 1) := by decide +kernel
def wp_X5_isIndex (x0 : Int32) (x1 : Int32) (σ : Sg) (Q : Int32 → Sg → Prop) : Prop := ((x0 < 0 → Q (0 : Int32) σ) ∧ (¬ x0 < 0 → ((x1 ≤ x0 → Q (0 : Int32) σ) ∧ (¬ x1 ≤ x0 → Q (1 : Int32) σ))))
set_option maxRecDepth 100000 in
set_option maxHeartbeats 4000000 in
theorem c_X5_isIndex (l : Launch) (E : Ev) {x0 : Int32} {x1 : Int32} {σ : Sg} {Q : Int32 → Sg → Prop} (hw : wp_X5_isIndex x0 x1 σ Q) : CT l E yX5_isIndex cX5_isIndex 2 (some .boolean) 0 0 [.int x0, .int x1] σ (QI E Q) := by
  refine CT_of (by decide) (Nat.le_of_ble_eq_true rfl) (fun X h1 h2 C => ?_)
  subst h1; subst h2
  have C : Cx X cX5_isIndex "SweetWraps" (some .boolean) 0 0 2 (QI (tE X) Q) := C
  show G X σ [(0, .int x0), (1, .int x1)] [] 0
  unfold wp_X5_isIndex at hw
  refine gx_iload_n C dX5_isIndex_0 0 rfl ?_
  refine gx_if_lt (tgt := 13) C dX5_isIndex_1 (by decide) (fun c1 => ?_) (fun c1 => ?_)
  · replace hw := hw.1 c1
    refine gx_iconst (v := (0 : Int32)) C dX5_isIndex_13 (by decide) ?_
    exact gx_iret C rfl rfl dX5_isIndex_14 hw
  · replace hw := hw.2 c1
    refine gx_iload_n C dX5_isIndex_4 0 rfl ?_
    refine gx_iload_n C dX5_isIndex_5 1 rfl ?_
    refine gx_icmp_ge (tgt := 13) C dX5_isIndex_6 (by decide) (fun c2 => ?_) (fun c2 => ?_)
    · replace hw := hw.1 c2
      refine gx_iconst (v := (0 : Int32)) C dX5_isIndex_13 (by decide) ?_
      exact gx_iret C rfl rfl dX5_isIndex_14 hw
    · replace hw := hw.2 c2
      refine gx_iconst (v := (1 : Int32)) C dX5_isIndex_9 (by decide) ?_
      refine gx_goto (tgt := 14) C dX5_isIndex_10 (by decide) ?_
      exact gx_iret C rfl rfl dX5_isIndex_14 hw
theorem hyS_X5_isIndex : yX5_isIndex.cls ≠ "java/lang/invoke/MethodHandle" ∧ yX5_isIndex.cls ≠ "java/lang/invoke/VarHandle" ∧ (parseMethodDescriptor yX5_isIndex.desc).map (fun d => d.parameters.length) = some 2 := by decide +kernel

theorem dX5_isBetween_0 : decode cX5_isBetween 0 = .ok (.iload_n 0, 1) := by decide +kernel
theorem dX5_isBetween_1 : decode cX5_isBetween 1 = .ok (.iload_n 1, 1) := by decide +kernel
theorem dX5_isBetween_2 : decode cX5_isBetween 2 = .ok (.if_icmp .lt 12, 3) := by decide +kernel
theorem dX5_isBetween_5 : decode cX5_isBetween 5 = .ok (.iload_n 0, 1) := by decide +kernel
theorem dX5_isBetween_6 : decode cX5_isBetween 6 = .ok (.iload_n 2, 1) := by decide +kernel
theorem dX5_isBetween_7 : decode cX5_isBetween 7 = .ok (.if_icmp .gt 7, 3) := by decide +kernel
theorem dX5_isBetween_10 : decode cX5_isBetween 10 = .ok (.iconst 1, 1) := by decide +kernel
theorem dX5_isBetween_11 : decode cX5_isBetween 11 = .ok (.goto 4, 3) := by decide +kernel
theorem dX5_isBetween_14 : decode cX5_isBetween 14 = .ok (.iconst 0, 1) := by decide +kernel
theorem dX5_isBetween_15 : decode cX5_isBetween 15 = .ok (.ireturn, 1) := by decide +kernel
def wp_X5_isBetween (x0 : Int32) (x1 : Int32) (x2 : Int32) (σ : Sg) (Q : Int32 → Sg → Prop) : Prop := ((x0 < x1 → Q (0 : Int32) σ) ∧ (¬ x0 < x1 → ((x2 < x0 → Q (0 : Int32) σ) ∧ (¬ x2 < x0 → Q (1 : Int32) σ))))
set_option maxRecDepth 100000 in
set_option maxHeartbeats 4000000 in
theorem c_X5_isBetween (l : Launch) (E : Ev) {x0 : Int32} {x1 : Int32} {x2 : Int32} {σ : Sg} {Q : Int32 → Sg → Prop} (hw : wp_X5_isBetween x0 x1 x2 σ Q) : CT l E yX5_isBetween cX5_isBetween 3 (some .boolean) 0 0 [.int x0, .int x1, .int x2] σ (QI E Q) := by
  refine CT_of (by decide) (Nat.le_of_ble_eq_true rfl) (fun X h1 h2 C => ?_)
  subst h1; subst h2
  have C : Cx X cX5_isBetween "SweetWraps" (some .boolean) 0 0 3 (QI (tE X) Q) := C
  show G X σ [(0, .int x0), (1, .int x1), (2, .int x2)] [] 0
  unfold wp_X5_isBetween at hw
  refine gx_iload_n C dX5_isBetween_0 0 rfl ?_
  refine gx_iload_n C dX5_isBetween_1 1 rfl ?_
  refine gx_icmp_lt (tgt := 14) C dX5_isBetween_2 (by decide) (fun c1 => ?_) (fun c1 => ?_)
  · replace hw := hw.1 c1
    refine gx_iconst (v := (0 : Int32)) C dX5_isBetween_14 (by decide) ?_
    exact gx_iret C rfl rfl dX5_isBetween_15 hw
  · replace hw := hw.2 c1
    refine gx_iload_n C dX5_isBetween_5 0 rfl ?_
    refine gx_iload_n C dX5_isBetween_6 2 rfl ?_
    refine gx_icmp_gt (tgt := 14) C dX5_isBetween_7 (by decide) (fun c2 => ?_) (fun c2 => ?_)
    · replace hw := hw.1 c2
      refine gx_iconst (v := (0 : Int32)) C dX5_isBetween_14 (by decide) ?_
      exact gx_iret C rfl rfl dX5_isBetween_15 hw
    · replace hw := hw.2 c2
      refine gx_iconst (v := (1 : Int32)) C dX5_isBetween_10 (by decide) ?_
      refine gx_goto (tgt := 15) C dX5_isBetween_11 (by decide) ?_
      exact gx_iret C rfl rfl dX5_isBetween_15 hw
theorem hyS_X5_isBetween : yX5_isBetween.cls ≠ "java/lang/invoke/MethodHandle" ∧ yX5_isBetween.cls ≠ "java/lang/invoke/VarHandle" ∧ (parseMethodDescriptor yX5_isBetween.desc).map (fun d => d.parameters.length) = some 3 := by decide +kernel

theorem dX2_foilOfPull_0 : decode cX2_foilOfPull 0 = .ok (.iconst 2, 1) := by decide +kernel
theorem dX2_foilOfPull_1 : decode cX2_foilOfPull 1 = .ok (.aload_n 0, 1) := by decide +kernel
theorem dX2_foilOfPull_2 : decode cX2_foilOfPull 2 = .ok (.getfield 9, 3) := by decide +kernel
theorem dX2_foilOfPull_5 : decode cX2_foilOfPull 5 = .ok (.iconst 3, 1) := by decide +kernel
theorem dX2_foilOfPull_6 : decode cX2_foilOfPull 6 = .ok (.iaload, 1) := by decide +kernel
theorem dX2_foilOfPull_7 : decode cX2_foilOfPull 7 = .ok (.iadd, 1) := by decide +kernel
theorem dX2_foilOfPull_8 : decode cX2_foilOfPull 8 = .ok (.ireturn, 1) := by decide +kernel
def wp_X2_foilOfPull (m : Nat) (σ : Sg) (Q : Int32 → Sg → Prop) : Prop := Q ((2 : Int32) + (σ m 1 0 3)) σ
set_option maxRecDepth 100000 in
set_option maxHeartbeats 4000000 in
theorem c_X2_foilOfPull (l : Launch) (E : Ev) {m : Nat} (hm : m < 11) {σ : Sg} {Q : Int32 → Sg → Prop} (hw : wp_X2_foilOfPull m σ Q) : CT l E yX2_foilOfPull cX2_foilOfPull 1 (some .int) 0 0 [.ref (ad E m 0 0)] σ (QI E Q) := by
  refine CT_of (by decide) (Nat.le_of_ble_eq_true rfl) (fun X h1 h2 C => ?_)
  subst h1; subst h2
  have C : Cx X cX2_foilOfPull "SweetWraps$Machine" (some .int) 0 0 1 (QI (tE X) Q) := C
  show G X σ [(0, .ref (ad (tE X) m 0 0))] [] 0
  unfold wp_X2_foilOfPull at hw
  refine gx_iconst (v := (2 : Int32)) C dX2_foilOfPull_0 (by decide) ?_
  refine gx_aload_n C dX2_foilOfPull_1 0 rfl ?_
  refine gx_get C (ok0 hm) rfl rfl inX2 (ref := "SweetWraps$Machine") 0 (by decide) bw_93 rfl rfl dX2_foilOfPull_2 ?_
  refine gx_iconst (v := (3 : Int32)) C dX2_foilOfPull_5 (by decide) ?_
  refine gx_iald C (ok1 hm) rfl (n := 4) (x := (3 : Int32)) (by decide) 3 (by decide) dX2_foilOfPull_6 ?_
  refine gx_iadd C dX2_foilOfPull_7 ?_
  exact gx_iret C rfl rfl dX2_foilOfPull_8 hw
theorem hy_X2_foilOfPull : yX2_foilOfPull.cls = "SweetWraps$Machine" ∧ yX2_foilOfPull.cls ≠ "java/lang/invoke/MethodHandle" ∧ yX2_foilOfPull.cls ≠ "java/lang/invoke/VarHandle" ∧ (parseMethodDescriptor yX2_foilOfPull.desc).map (fun d => d.parameters.length) = some 0 := by decide +kernel

theorem dX2_pullsUntilTear_0 : decode cX2_pullsUntilTear 0 = .ok (.aload_n 0, 1) := by decide +kernel
theorem dX2_pullsUntilTear_1 : decode cX2_pullsUntilTear 1 = .ok (.getfield 9, 3) := by decide +kernel
theorem dX2_pullsUntilTear_4 : decode cX2_pullsUntilTear 4 = .ok (.iconst 0, 1) := by decide +kernel
theorem dX2_pullsUntilTear_5 : decode cX2_pullsUntilTear 5 = .ok (.iaload, 1) := by decide +kernel
theorem dX2_pullsUntilTear_6 : decode cX2_pullsUntilTear 6 = .ok (.istore_n 1, 1) := by decide +kernel
theorem dX2_pullsUntilTear_7 : decode cX2_pullsUntilTear 7 = .ok (.iload_n 1, 1) := by decide +kernel
theorem dX2_pullsUntilTear_8 : decode cX2_pullsUntilTear 8 = .ok (.iconst 1, 1) := by decide +kernel
theorem dX2_pullsUntilTear_9 : decode cX2_pullsUntilTear 9 = .ok (.if_icmp .ge 7, 3) := by decide +kernel
theorem dX2_pullsUntilTear_12 : decode cX2_pullsUntilTear 12 = .ok (.iconst 2, 1) := by decide +kernel
theorem dX2_pullsUntilTear_13 : decode cX2_pullsUntilTear 13 = .ok (.goto 15, 3) := by decide +kernel
theorem dX2_pullsUntilTear_16 : decode cX2_pullsUntilTear 16 = .ok (.iconst 2, 1) := by decide +kernel
theorem dX2_pullsUntilTear_17 : decode cX2_pullsUntilTear 17 = .ok (.aload_n 0, 1) := by decide +kernel
theorem dX2_pullsUntilTear_18 : decode cX2_pullsUntilTear 18 = .ok (.getfield 9, 3) := by decide +kernel
theorem dX2_pullsUntilTear_21 : decode cX2_pullsUntilTear 21 = .ok (.iconst 1, 1) := by decide +kernel
theorem dX2_pullsUntilTear_22 : decode cX2_pullsUntilTear 22 = .ok (.iaload, 1) := by decide +kernel
theorem dX2_pullsUntilTear_23 : decode cX2_pullsUntilTear 23 = .ok (.iload_n 1, 1) := by decide +kernel
theorem dX2_pullsUntilTear_24 : decode cX2_pullsUntilTear 24 = .ok (.idiv, 1) := by decide +kernel
theorem dX2_pullsUntilTear_25 : decode cX2_pullsUntilTear 25 = .ok (.invokestatic 133, 3) := by decide +kernel
theorem dX2_pullsUntilTear_28 : decode cX2_pullsUntilTear 28 = .ok (.ireturn, 1) := by decide +kernel
def wp_X2_pullsUntilTear (m : Nat) (σ : Sg) (Q : Int32 → Sg → Prop) : Prop := ∀ x1 : Int32, x1 = (σ m 1 0 0) → (((1 : Int32) ≤ x1 → (¬ x1 = 0 ∧ ∀ x3 : Int32, x3 = (if (2 : Int32) < ((σ m 1 0 1) / x1) then ((σ m 1 0 1) / x1) else (2 : Int32)) → Q x3 σ)) ∧ (¬ (1 : Int32) ≤ x1 → Q (2 : Int32) σ))
set_option maxRecDepth 100000 in
set_option maxHeartbeats 4000000 in
theorem c_X2_pullsUntilTear (l : Launch) (E : Ev) {m : Nat} (hm : m < 11) {σ : Sg} {Q : Int32 → Sg → Prop} (hw : wp_X2_pullsUntilTear m σ Q) : CT l E yX2_pullsUntilTear cX2_pullsUntilTear 2 (some .int) 1 40 [.ref (ad E m 0 0)] σ (QI E Q) := by
  refine CT_of (by decide) (Nat.le_of_ble_eq_true rfl) (fun X h1 h2 C => ?_)
  subst h1; subst h2
  have C : Cx X cX2_pullsUntilTear "SweetWraps$Machine" (some .int) 1 40 2 (QI (tE X) Q) := C
  show G X σ [(0, .ref (ad (tE X) m 0 0))] [] 0
  unfold wp_X2_pullsUntilTear at hw
  refine gx_aload_n C dX2_pullsUntilTear_0 0 rfl ?_
  refine gx_get C (ok0 hm) rfl rfl inX2 (ref := "SweetWraps$Machine") 0 (by decide) bw_93 rfl rfl dX2_pullsUntilTear_1 ?_
  refine gx_iconst (v := (0 : Int32)) C dX2_pullsUntilTear_4 (by decide) ?_
  refine gx_iald C (ok1 hm) rfl (n := 4) (x := (0 : Int32)) (by decide) 0 (by decide) dX2_pullsUntilTear_5 ?_
  obtain ⟨x1, e_x1⟩ : ∃ z : Int32, z = (σ m 1 0 0) := ⟨_, rfl⟩
  replace hw := hw x1 e_x1
  refine gx_top e_x1 ?_
  refine gx_istore_n (lv' := [(1, .int x1), (0, .ref (ad (tE X) m 0 0))]) C dX2_pullsUntilTear_6 (by decide) rfl ?_
  refine gx_iload_n C dX2_pullsUntilTear_7 0 rfl ?_
  refine gx_iconst (v := (1 : Int32)) C dX2_pullsUntilTear_8 (by decide) ?_
  refine gx_icmp_ge (tgt := 16) C dX2_pullsUntilTear_9 (by decide) (fun c2 => ?_) (fun c2 => ?_)
  · replace hw := hw.1 c2
    refine gx_iconst (v := (2 : Int32)) C dX2_pullsUntilTear_16 (by decide) ?_
    refine gx_aload_n C dX2_pullsUntilTear_17 1 rfl ?_
    refine gx_get C (ok0 hm) rfl rfl inX2 (ref := "SweetWraps$Machine") 0 (by decide) bw_93 rfl rfl dX2_pullsUntilTear_18 ?_
    refine gx_iconst (v := (1 : Int32)) C dX2_pullsUntilTear_21 (by decide) ?_
    refine gx_iald C (ok1 hm) rfl (n := 4) (x := (1 : Int32)) (by decide) 1 (by decide) dX2_pullsUntilTear_22 ?_
    refine gx_iload_n C dX2_pullsUntilTear_23 0 rfl ?_
    refine gx_idiv C dX2_pullsUntilTear_24 hw.1 ?_
    replace hw := hw.2
    refine gx_mmax C dX2_pullsUntilTear_25 bw_337 bw_338 bw_8 bw_339 ⟨by decide, by decide⟩ ?_
    obtain ⟨x3, e_x3⟩ : ∃ z : Int32, z = (if (2 : Int32) < ((σ m 1 0 1) / x1) then ((σ m 1 0 1) / x1) else (2 : Int32)) := ⟨_, rfl⟩
    replace hw := hw x3 e_x3
    refine gx_top e_x3 ?_
    exact gx_iret C rfl rfl dX2_pullsUntilTear_28 hw
  · replace hw := hw.2 c2
    refine gx_iconst (v := (2 : Int32)) C dX2_pullsUntilTear_12 (by decide) ?_
    refine gx_goto (tgt := 28) C dX2_pullsUntilTear_13 (by decide) ?_
    exact gx_iret C rfl rfl dX2_pullsUntilTear_28 hw
theorem hy_X2_pullsUntilTear : yX2_pullsUntilTear.cls = "SweetWraps$Machine" ∧ yX2_pullsUntilTear.cls ≠ "java/lang/invoke/MethodHandle" ∧ yX2_pullsUntilTear.cls ≠ "java/lang/invoke/VarHandle" ∧ (parseMethodDescriptor yX2_pullsUntilTear.desc).map (fun d => d.parameters.length) = some 0 := by decide +kernel

theorem dX2_reasonOf_0 : decode cX2_reasonOf 0 = .ok (.aload_n 1, 1) := by decide +kernel
theorem dX2_reasonOf_1 : decode cX2_reasonOf 1 = .ok (.getfield 138, 3) := by decide +kernel
theorem dX2_reasonOf_4 : decode cX2_reasonOf 4 = .ok (.ifCond .ne 5, 3) := by decide +kernel
theorem dX2_reasonOf_7 : decode cX2_reasonOf 7 = .ok (.iconst 1, 1) := by decide +kernel
theorem dX2_reasonOf_8 : decode cX2_reasonOf 8 = .ok (.ireturn, 1) := by decide +kernel
theorem dX2_reasonOf_9 : decode cX2_reasonOf 9 = .ok (.iload_n 2, 1) := by decide +kernel
theorem dX2_reasonOf_10 : decode cX2_reasonOf 10 = .ok (.bipush (-6), 2) := by decide +kernel
theorem dX2_reasonOf_12 : decode cX2_reasonOf 12 = .ok (.if_icmp .ne 5, 3) := by decide +kernel
theorem dX2_reasonOf_15 : decode cX2_reasonOf 15 = .ok (.iconst 2, 1) := by decide +kernel
theorem dX2_reasonOf_16 : decode cX2_reasonOf 16 = .ok (.ireturn, 1) := by decide +kernel
theorem dX2_reasonOf_17 : decode cX2_reasonOf 17 = .ok (.aload_n 1, 1) := by decide +kernel
theorem dX2_reasonOf_18 : decode cX2_reasonOf 18 = .ok (.getfield 74, 3) := by decide +kernel
theorem dX2_reasonOf_21 : decode cX2_reasonOf 21 = .ok (.aload_n 0, 1) := by decide +kernel
theorem dX2_reasonOf_22 : decode cX2_reasonOf 22 = .ok (.invokevirtual 103, 3) := by decide +kernel
theorem dX2_reasonOf_25 : decode cX2_reasonOf 25 = .ok (.if_icmp .ge 7, 3) := by decide +kernel
theorem dX2_reasonOf_28 : decode cX2_reasonOf 28 = .ok (.iconst 3, 1) := by decide +kernel
theorem dX2_reasonOf_29 : decode cX2_reasonOf 29 = .ok (.goto 4, 3) := by decide +kernel
theorem dX2_reasonOf_32 : decode cX2_reasonOf 32 = .ok (.iconst 0, 1) := by decide +kernel
theorem dX2_reasonOf_33 : decode cX2_reasonOf 33 = .ok (.ireturn, 1) := by decide +kernel
def wp_X2_reasonOf (m : Nat) (i1 : Nat) (x2 : Int32) (σ : Sg) (Q : Int32 → Sg → Prop) : Prop := ((¬ (σ m 5 i1 2) = 0 → ((¬ x2 = (-6 : Int32) → wp_X2_foilOfPull m σ (fun r3 σ4 => ((r3 ≤ (σ m 5 i1 3) → Q (0 : Int32) σ4) ∧ (¬ r3 ≤ (σ m 5 i1 3) → Q (3 : Int32) σ4)))) ∧ (x2 = (-6 : Int32) → Q (2 : Int32) σ))) ∧ ((σ m 5 i1 2) = 0 → Q (1 : Int32) σ))
set_option maxRecDepth 100000 in
set_option maxHeartbeats 4000000 in
theorem c_X2_reasonOf (l : Launch) (E : Ev) {m : Nat} {i1 : Nat} {x2 : Int32} (hm : m < 11) (hi1 : i1 < 4) {σ : Sg} {Q : Int32 → Sg → Prop} (hw : wp_X2_reasonOf m i1 x2 σ Q) : CT l E yX2_reasonOf cX2_reasonOf 3 (some .int) 1 20 [.ref (ad E m 0 0), .ref (ad E m 5 i1), .int x2] σ (QI E Q) := by
  refine CT_of (by decide) (Nat.le_of_ble_eq_true rfl) (fun X h1 h2 C => ?_)
  subst h1; subst h2
  have C : Cx X cX2_reasonOf "SweetWraps$Machine" (some .int) 1 20 3 (QI (tE X) Q) := C
  show G X σ [(0, .ref (ad (tE X) m 0 0)), (1, .ref (ad (tE X) m 5 i1)), (2, .int x2)] [] 0
  unfold wp_X2_reasonOf at hw
  refine gx_aload_n C dX2_reasonOf_0 1 rfl ?_
  refine gx_get C (ok5 hm hi1) rfl rfl inX1 (ref := "SweetWraps$Lane") 2 (by decide) bw_42 rfl rfl dX2_reasonOf_1 ?_
  refine gx_if_ne (tgt := 9) C dX2_reasonOf_4 (by decide) (fun c1 => ?_) (fun c1 => ?_)
  · replace hw := hw.1 c1
    refine gx_iload_n C dX2_reasonOf_9 2 rfl ?_
    refine gx_bipush (v := (-6 : Int32)) C dX2_reasonOf_10 (by decide) ?_
    refine gx_icmp_ne (tgt := 17) C dX2_reasonOf_12 (by decide) (fun c2 => ?_) (fun c2 => ?_)
    · replace hw := hw.1 c2
      refine gx_aload_n C dX2_reasonOf_17 1 rfl ?_
      refine gx_get C (ok5 hm hi1) rfl rfl inX1 (ref := "SweetWraps$Lane") 3 (by decide) bw_44 rfl rfl dX2_reasonOf_18 ?_
      refine gx_aload_n C dX2_reasonOf_21 0 rfl ?_
      refine gx_vcalli (As := []) (rest := [.int (σ m 5 i1 3)]) C (c_X2_foilOfPull _ _ hm hw) (ok0 hm) rfl rfl bw_329 bw_331 bs_5 bw_2 bw_332 hy_X2_foilOfPull ⟨by decide, by decide⟩ rfl (by decide) dX2_reasonOf_22 (fun r3 σ4 hw => ?_)
      refine gx_icmp_ge (tgt := 32) C dX2_reasonOf_25 (by decide) (fun c5 => ?_) (fun c5 => ?_)
      · replace hw := hw.1 c5
        refine gx_iconst (v := (0 : Int32)) C dX2_reasonOf_32 (by decide) ?_
        exact gx_iret C rfl rfl dX2_reasonOf_33 hw
      · replace hw := hw.2 c5
        refine gx_iconst (v := (3 : Int32)) C dX2_reasonOf_28 (by decide) ?_
        refine gx_goto (tgt := 33) C dX2_reasonOf_29 (by decide) ?_
        exact gx_iret C rfl rfl dX2_reasonOf_33 hw
    · replace hw := hw.2 c2
      refine gx_iconst (v := (2 : Int32)) C dX2_reasonOf_15 (by decide) ?_
      exact gx_iret C rfl rfl dX2_reasonOf_16 hw
  · replace hw := hw.2 c1
    refine gx_iconst (v := (1 : Int32)) C dX2_reasonOf_7 (by decide) ?_
    exact gx_iret C rfl rfl dX2_reasonOf_8 hw
theorem hy_X2_reasonOf : yX2_reasonOf.cls = "SweetWraps$Machine" ∧ yX2_reasonOf.cls ≠ "java/lang/invoke/MethodHandle" ∧ yX2_reasonOf.cls ≠ "java/lang/invoke/VarHandle" ∧ (parseMethodDescriptor yX2_reasonOf.desc).map (fun d => d.parameters.length) = some 2 := by decide +kernel

theorem dX1_isHeap_0 : decode cX1_isHeap 0 = .ok (.iload_n 1, 1) := by decide +kernel
theorem dX1_isHeap_1 : decode cX1_isHeap 1 = .ok (.aload_n 0, 1) := by decide +kernel
theorem dX1_isHeap_2 : decode cX1_isHeap 2 = .ok (.getfield 22, 3) := by decide +kernel
theorem dX1_isHeap_5 : decode cX1_isHeap 5 = .ok (.invokestatic 38, 3) := by decide +kernel
theorem dX1_isHeap_8 : decode cX1_isHeap 8 = .ok (.ifCond .eq 13, 3) := by decide +kernel
theorem dX1_isHeap_11 : decode cX1_isHeap 11 = .ok (.iload_n 1, 1) := by decide +kernel
theorem dX1_isHeap_12 : decode cX1_isHeap 12 = .ok (.bipush 6, 2) := by decide +kernel
theorem dX1_isHeap_14 : decode cX1_isHeap 14 = .ok (.if_icmp .ge 7, 3) := by decide +kernel
theorem dX1_isHeap_17 : decode cX1_isHeap 17 = .ok (.iconst 1, 1) := by decide +kernel
theorem dX1_isHeap_18 : decode cX1_isHeap 18 = .ok (.goto 4, 3) := by decide +kernel
theorem dX1_isHeap_21 : decode cX1_isHeap 21 = .ok (.iconst 0, 1) := by decide +kernel
theorem dX1_isHeap_22 : decode cX1_isHeap 22 = .ok (.ireturn, 1) := by decide +kernel
def wp_X1_isHeap (m : Nat) (i : Nat) (x1 : Int32) (σ : Sg) (Q : Int32 → Sg → Prop) : Prop := wp_X5_isIndex x1 (σ m 5 i 2) σ (fun r1 σ2 => ((r1 = 0 → Q (0 : Int32) σ2) ∧ (¬ r1 = 0 → (((6 : Int32) ≤ x1 → Q (0 : Int32) σ2) ∧ (¬ (6 : Int32) ≤ x1 → Q (1 : Int32) σ2)))))
set_option maxRecDepth 100000 in
set_option maxHeartbeats 4000000 in
theorem c_X1_isHeap (l : Launch) (E : Ev) {m : Nat} {i : Nat} {x1 : Int32} (hm : m < 11) (hi : i < 4) {σ : Sg} {Q : Int32 → Sg → Prop} (hw : wp_X1_isHeap m i x1 σ Q) : CT l E yX1_isHeap cX1_isHeap 2 (some .boolean) 1 21 [.ref (ad E m 5 i), .int x1] σ (QI E Q) := by
  refine CT_of (by decide) (Nat.le_of_ble_eq_true rfl) (fun X h1 h2 C => ?_)
  subst h1; subst h2
  have C : Cx X cX1_isHeap "SweetWraps$Lane" (some .boolean) 1 21 2 (QI (tE X) Q) := C
  show G X σ [(0, .ref (ad (tE X) m 5 i)), (1, .int x1)] [] 0
  unfold wp_X1_isHeap at hw
  refine gx_iload_n C dX1_isHeap_0 1 rfl ?_
  refine gx_aload_n C dX1_isHeap_1 0 rfl ?_
  refine gx_get C (ok5 hm hi) rfl rfl inX1 (ref := "SweetWraps$Lane") 2 (by decide) bw_41 rfl rfl dX1_isHeap_2 ?_
  refine gx_ncalli (As := [.int x1, .int (σ m 5 i 2)]) (rest := []) (host := "SweetWraps") C (c_X5_isIndex _ _ hw) (nest_in _ (by decide +kernel)) bw_226 bw_1 bw_227 hyS_X5_isIndex ⟨by decide, by decide⟩ rfl (by decide) dX1_isHeap_5 (fun r1 σ2 hw => ?_)
  refine gx_if_eq (tgt := 21) C dX1_isHeap_8 (by decide) (fun c3 => ?_) (fun c3 => ?_)
  · replace hw := hw.1 c3
    refine gx_iconst (v := (0 : Int32)) C dX1_isHeap_21 (by decide) ?_
    exact gx_iret C rfl rfl dX1_isHeap_22 hw
  · replace hw := hw.2 c3
    refine gx_iload_n C dX1_isHeap_11 1 rfl ?_
    refine gx_bipush (v := (6 : Int32)) C dX1_isHeap_12 (by decide) ?_
    refine gx_icmp_ge (tgt := 21) C dX1_isHeap_14 (by decide) (fun c4 => ?_) (fun c4 => ?_)
    · replace hw := hw.1 c4
      refine gx_iconst (v := (0 : Int32)) C dX1_isHeap_21 (by decide) ?_
      exact gx_iret C rfl rfl dX1_isHeap_22 hw
    · replace hw := hw.2 c4
      refine gx_iconst (v := (1 : Int32)) C dX1_isHeap_17 (by decide) ?_
      refine gx_goto (tgt := 22) C dX1_isHeap_18 (by decide) ?_
      exact gx_iret C rfl rfl dX1_isHeap_22 hw
theorem hy_X1_isHeap : yX1_isHeap.cls = "SweetWraps$Lane" ∧ yX1_isHeap.cls ≠ "java/lang/invoke/MethodHandle" ∧ yX1_isHeap.cls ≠ "java/lang/invoke/VarHandle" ∧ (parseMethodDescriptor yX1_isHeap.desc).map (fun d => d.parameters.length) = some 1 := by decide +kernel

theorem dX1_nextFlavour_0 : decode cX1_nextFlavour 0 = .ok (.aload_n 0, 1) := by decide +kernel
theorem dX1_nextFlavour_1 : decode cX1_nextFlavour 1 = .ok (.iconst 0, 1) := by decide +kernel
theorem dX1_nextFlavour_2 : decode cX1_nextFlavour 2 = .ok (.invokevirtual 42, 3) := by decide +kernel
theorem dX1_nextFlavour_5 : decode cX1_nextFlavour 5 = .ok (.ifCond .eq 12, 3) := by decide +kernel
theorem dX1_nextFlavour_8 : decode cX1_nextFlavour 8 = .ok (.aload_n 0, 1) := by decide +kernel
theorem dX1_nextFlavour_9 : decode cX1_nextFlavour 9 = .ok (.getfield 9, 3) := by decide +kernel
theorem dX1_nextFlavour_12 : decode cX1_nextFlavour 12 = .ok (.iconst 0, 1) := by decide +kernel
theorem dX1_nextFlavour_13 : decode cX1_nextFlavour 13 = .ok (.iaload, 1) := by decide +kernel
theorem dX1_nextFlavour_14 : decode cX1_nextFlavour 14 = .ok (.goto 5, 3) := by decide +kernel
theorem dX1_nextFlavour_17 : decode cX1_nextFlavour 17 = .ok (.bipush (-6), 2) := by decide +kernel
theorem dX1_nextFlavour_19 : decode cX1_nextFlavour 19 = .ok (.ireturn, 1) := by decide +kernel
def wp_X1_nextFlavour (m : Nat) (i : Nat) (σ : Sg) (Q : Int32 → Sg → Prop) : Prop := wp_X1_isHeap m i (0 : Int32) σ (fun r1 σ2 => ((r1 = 0 → Q (-6 : Int32) σ2) ∧ (¬ r1 = 0 → Q (σ2 m 6 i 0) σ2)))
set_option maxRecDepth 100000 in
set_option maxHeartbeats 4000000 in
theorem c_X1_nextFlavour (l : Launch) (E : Ev) {m : Nat} {i : Nat} (hm : m < 11) (hi : i < 4) {σ : Sg} {Q : Int32 → Sg → Prop} (hw : wp_X1_nextFlavour m i σ Q) : CT l E yX1_nextFlavour cX1_nextFlavour 1 (some .int) 2 42 [.ref (ad E m 5 i)] σ (QI E Q) := by
  refine CT_of (by decide) (Nat.le_of_ble_eq_true rfl) (fun X h1 h2 C => ?_)
  subst h1; subst h2
  have C : Cx X cX1_nextFlavour "SweetWraps$Lane" (some .int) 2 42 1 (QI (tE X) Q) := C
  show G X σ [(0, .ref (ad (tE X) m 5 i))] [] 0
  unfold wp_X1_nextFlavour at hw
  refine gx_aload_n C dX1_nextFlavour_0 0 rfl ?_
  refine gx_iconst (v := (0 : Int32)) C dX1_nextFlavour_1 (by decide) ?_
  refine gx_vcalli (As := [.int (0 : Int32)]) (rest := []) C (c_X1_isHeap _ _ hm hi hw) (ok5 hm hi) rfl rfl bw_256 bw_257 bw_258 bw_3 bw_259 hy_X1_isHeap ⟨by decide, by decide⟩ rfl (by decide) dX1_nextFlavour_2 (fun r1 σ2 hw => ?_)
  refine gx_if_eq (tgt := 17) C dX1_nextFlavour_5 (by decide) (fun c3 => ?_) (fun c3 => ?_)
  · replace hw := hw.1 c3
    refine gx_bipush (v := (-6 : Int32)) C dX1_nextFlavour_17 (by decide) ?_
    exact gx_iret C rfl rfl dX1_nextFlavour_19 hw
  · replace hw := hw.2 c3
    refine gx_aload_n C dX1_nextFlavour_8 0 rfl ?_
    refine gx_get C (ok5 hm hi) rfl rfl inX1 (ref := "SweetWraps$Lane") 0 (by decide) bw_37 rfl rfl dX1_nextFlavour_9 ?_
    refine gx_iconst (v := (0 : Int32)) C dX1_nextFlavour_12 (by decide) ?_
    refine gx_iald C (ok6 hm hi) rfl (n := 6) (x := (0 : Int32)) (by decide) 0 (by decide) dX1_nextFlavour_13 ?_
    refine gx_goto (tgt := 19) C dX1_nextFlavour_14 (by decide) ?_
    exact gx_iret C rfl rfl dX1_nextFlavour_19 hw
theorem hy_X1_nextFlavour : yX1_nextFlavour.cls = "SweetWraps$Lane" ∧ yX1_nextFlavour.cls ≠ "java/lang/invoke/MethodHandle" ∧ yX1_nextFlavour.cls ≠ "java/lang/invoke/VarHandle" ∧ (parseMethodDescriptor yX1_nextFlavour.desc).map (fun d => d.parameters.length) = some 0 := by decide +kernel

theorem dX4_hasRoomFor_0 : decode cX4_hasRoomFor 0 = .ok (.aload_n 0, 1) := by decide +kernel
theorem dX4_hasRoomFor_1 : decode cX4_hasRoomFor 1 = .ok (.getfield 26, 3) := by decide +kernel
theorem dX4_hasRoomFor_4 : decode cX4_hasRoomFor 4 = .ok (.ifCond .ne 24, 3) := by decide +kernel
theorem dX4_hasRoomFor_7 : decode cX4_hasRoomFor 7 = .ok (.aload_n 0, 1) := by decide +kernel
theorem dX4_hasRoomFor_8 : decode cX4_hasRoomFor 8 = .ok (.getfield 23, 3) := by decide +kernel
theorem dX4_hasRoomFor_11 : decode cX4_hasRoomFor 11 = .ok (.iload_n 1, 1) := by decide +kernel
theorem dX4_hasRoomFor_12 : decode cX4_hasRoomFor 12 = .ok (.if_icmp .ge 16, 3) := by decide +kernel
theorem dX4_hasRoomFor_15 : decode cX4_hasRoomFor 15 = .ok (.aload_n 0, 1) := by decide +kernel
theorem dX4_hasRoomFor_16 : decode cX4_hasRoomFor 16 = .ok (.getfield 19, 3) := by decide +kernel
theorem dX4_hasRoomFor_19 : decode cX4_hasRoomFor 19 = .ok (.iload_n 2, 1) := by decide +kernel
theorem dX4_hasRoomFor_20 : decode cX4_hasRoomFor 20 = .ok (.iand, 1) := by decide +kernel
theorem dX4_hasRoomFor_21 : decode cX4_hasRoomFor 21 = .ok (.ifCond .ne 7, 3) := by decide +kernel
theorem dX4_hasRoomFor_24 : decode cX4_hasRoomFor 24 = .ok (.iconst 1, 1) := by decide +kernel
theorem dX4_hasRoomFor_25 : decode cX4_hasRoomFor 25 = .ok (.goto 4, 3) := by decide +kernel
theorem dX4_hasRoomFor_28 : decode cX4_hasRoomFor 28 = .ok (.iconst 0, 1) := by decide +kernel
theorem dX4_hasRoomFor_29 : decode cX4_hasRoomFor 29 = .ok (.ireturn, 1) := by decide +kernel
def wp_X4_hasRoomFor (m : Nat) (i : Nat) (x1 : Int32) (x2 : Int32) (σ : Sg) (Q : Int32 → Sg → Prop) : Prop := ((¬ (σ m 8 i 3) = 0 → Q (0 : Int32) σ) ∧ ((σ m 8 i 3) = 0 → ((x1 ≤ (σ m 8 i 2) → Q (0 : Int32) σ) ∧ (¬ x1 ≤ (σ m 8 i 2) → ((¬ ((σ m 8 i 1) &&& x2) = 0 → Q (0 : Int32) σ) ∧ (((σ m 8 i 1) &&& x2) = 0 → Q (1 : Int32) σ))))))
set_option maxRecDepth 100000 in
set_option maxHeartbeats 4000000 in
theorem c_X4_hasRoomFor (l : Launch) (E : Ev) {m : Nat} {i : Nat} {x1 : Int32} {x2 : Int32} (hm : m < 11) (hi : i < 16) {σ : Sg} {Q : Int32 → Sg → Prop} (hw : wp_X4_hasRoomFor m i x1 x2 σ Q) : CT l E yX4_hasRoomFor cX4_hasRoomFor 3 (some .boolean) 0 0 [.ref (ad E m 8 i), .int x1, .int x2] σ (QI E Q) := by
  refine CT_of (by decide) (Nat.le_of_ble_eq_true rfl) (fun X h1 h2 C => ?_)
  subst h1; subst h2
  have C : Cx X cX4_hasRoomFor "SweetWraps$Tin" (some .boolean) 0 0 3 (QI (tE X) Q) := C
  show G X σ [(0, .ref (ad (tE X) m 8 i)), (1, .int x1), (2, .int x2)] [] 0
  unfold wp_X4_hasRoomFor at hw
  refine gx_aload_n C dX4_hasRoomFor_0 0 rfl ?_
  refine gx_get C (ok8 hm hi) rfl rfl inX4 (ref := "SweetWraps$Tin") 3 (by decide) bw_82 rfl rfl dX4_hasRoomFor_1 ?_
  refine gx_if_ne (tgt := 28) C dX4_hasRoomFor_4 (by decide) (fun c1 => ?_) (fun c1 => ?_)
  · replace hw := hw.1 c1
    refine gx_iconst (v := (0 : Int32)) C dX4_hasRoomFor_28 (by decide) ?_
    exact gx_iret C rfl rfl dX4_hasRoomFor_29 hw
  · replace hw := hw.2 c1
    refine gx_aload_n C dX4_hasRoomFor_7 0 rfl ?_
    refine gx_get C (ok8 hm hi) rfl rfl inX4 (ref := "SweetWraps$Tin") 2 (by decide) bw_80 rfl rfl dX4_hasRoomFor_8 ?_
    refine gx_iload_n C dX4_hasRoomFor_11 1 rfl ?_
    refine gx_icmp_ge (tgt := 28) C dX4_hasRoomFor_12 (by decide) (fun c2 => ?_) (fun c2 => ?_)
    · replace hw := hw.1 c2
      refine gx_iconst (v := (0 : Int32)) C dX4_hasRoomFor_28 (by decide) ?_
      exact gx_iret C rfl rfl dX4_hasRoomFor_29 hw
    · replace hw := hw.2 c2
      refine gx_aload_n C dX4_hasRoomFor_15 0 rfl ?_
      refine gx_get C (ok8 hm hi) rfl rfl inX4 (ref := "SweetWraps$Tin") 1 (by decide) bw_78 rfl rfl dX4_hasRoomFor_16 ?_
      refine gx_iload_n C dX4_hasRoomFor_19 2 rfl ?_
      refine gx_iand C dX4_hasRoomFor_20 ?_
      refine gx_if_ne (tgt := 28) C dX4_hasRoomFor_21 (by decide) (fun c3 => ?_) (fun c3 => ?_)
      · replace hw := hw.1 c3
        refine gx_iconst (v := (0 : Int32)) C dX4_hasRoomFor_28 (by decide) ?_
        exact gx_iret C rfl rfl dX4_hasRoomFor_29 hw
      · replace hw := hw.2 c3
        refine gx_iconst (v := (1 : Int32)) C dX4_hasRoomFor_24 (by decide) ?_
        refine gx_goto (tgt := 29) C dX4_hasRoomFor_25 (by decide) ?_
        exact gx_iret C rfl rfl dX4_hasRoomFor_29 hw
theorem hy_X4_hasRoomFor : yX4_hasRoomFor.cls = "SweetWraps$Tin" ∧ yX4_hasRoomFor.cls ≠ "java/lang/invoke/MethodHandle" ∧ yX4_hasRoomFor.cls ≠ "java/lang/invoke/VarHandle" ∧ (parseMethodDescriptor yX4_hasRoomFor.desc).map (fun d => d.parameters.length) = some 2 := by decide +kernel

theorem dX2_tinFor_0 : decode cX2_tinFor 0 = .ok (.iload_n 1, 1) := by decide +kernel
theorem dX2_tinFor_1 : decode cX2_tinFor 1 = .ok (.bipush 6, 2) := by decide +kernel
theorem dX2_tinFor_3 : decode cX2_tinFor 3 = .ok (.invokestatic 56, 3) := by decide +kernel
theorem dX2_tinFor_6 : decode cX2_tinFor 6 = .ok (.ifCond .ne 6, 3) := by decide +kernel
theorem dX2_tinFor_9 : decode cX2_tinFor 9 = .ok (.bipush (-6), 2) := by decide +kernel
theorem dX2_tinFor_11 : decode cX2_tinFor 11 = .ok (.ireturn, 1) := by decide +kernel
theorem dX2_tinFor_12 : decode cX2_tinFor 12 = .ok (.iconst 0, 1) := by decide +kernel
theorem dX2_tinFor_13 : decode cX2_tinFor 13 = .ok (.istore_n 2, 1) := by decide +kernel
theorem dX2_tinFor_14 : decode cX2_tinFor 14 = .ok (.iload_n 2, 1) := by decide +kernel
theorem dX2_tinFor_15 : decode cX2_tinFor 15 = .ok (.aload_n 0, 1) := by decide +kernel
theorem dX2_tinFor_16 : decode cX2_tinFor 16 = .ok (.getfield 43, 3) := by decide +kernel
theorem dX2_tinFor_19 : decode cX2_tinFor 19 = .ok (.if_icmp .ge 41, 3) := by decide +kernel
theorem dX2_tinFor_22 : decode cX2_tinFor 22 = .ok (.iload_n 2, 1) := by decide +kernel
theorem dX2_tinFor_23 : decode cX2_tinFor 23 = .ok (.bipush 16, 2) := by decide +kernel
theorem dX2_tinFor_25 : decode cX2_tinFor 25 = .ok (.if_icmp .ge 35, 3) := by decide +kernel
theorem dX2_tinFor_28 : decode cX2_tinFor 28 = .ok (.aload_n 0, 1) := by decide +kernel
theorem dX2_tinFor_29 : decode cX2_tinFor 29 = .ok (.getfield 23, 3) := by decide +kernel
theorem dX2_tinFor_32 : decode cX2_tinFor 32 = .ok (.iload_n 2, 1) := by decide +kernel
theorem dX2_tinFor_33 : decode cX2_tinFor 33 = .ok (.aaload, 1) := by decide +kernel
theorem dX2_tinFor_34 : decode cX2_tinFor 34 = .ok (.aload_n 0, 1) := by decide +kernel
theorem dX2_tinFor_35 : decode cX2_tinFor 35 = .ok (.getfield 9, 3) := by decide +kernel
theorem dX2_tinFor_38 : decode cX2_tinFor 38 = .ok (.iconst 2, 1) := by decide +kernel
theorem dX2_tinFor_39 : decode cX2_tinFor 39 = .ok (.iaload, 1) := by decide +kernel
theorem dX2_tinFor_40 : decode cX2_tinFor 40 = .ok (.aload_n 0, 1) := by decide +kernel
theorem dX2_tinFor_41 : decode cX2_tinFor 41 = .ok (.getfield 27, 3) := by decide +kernel
theorem dX2_tinFor_44 : decode cX2_tinFor 44 = .ok (.iload_n 1, 1) := by decide +kernel
theorem dX2_tinFor_45 : decode cX2_tinFor 45 = .ok (.iaload, 1) := by decide +kernel
theorem dX2_tinFor_46 : decode cX2_tinFor 46 = .ok (.invokevirtual 141, 3) := by decide +kernel
theorem dX2_tinFor_49 : decode cX2_tinFor 49 = .ok (.ifCond .eq 5, 3) := by decide +kernel
theorem dX2_tinFor_52 : decode cX2_tinFor 52 = .ok (.iload_n 2, 1) := by decide +kernel
theorem dX2_tinFor_53 : decode cX2_tinFor 53 = .ok (.ireturn, 1) := by decide +kernel
theorem dX2_tinFor_54 : decode cX2_tinFor 54 = .ok (.iinc 2 1, 3) := by decide +kernel
theorem dX2_tinFor_57 : decode cX2_tinFor 57 = .ok (.goto (-43), 3) := by decide +kernel
theorem dX2_tinFor_60 : decode cX2_tinFor 60 = .ok (.bipush (-6), 2) := by decide +kernel
theorem dX2_tinFor_62 : decode cX2_tinFor 62 = .ok (.ireturn, 1) := by decide +kernel
def st_X2_tinFor_L14 (m : Nat) (x1 : Int32) (Q : Int32 → Sg → Prop) (K14 : Int32 → Sg → Prop) (v2 : Int32) (σ : Sg) : Prop := (((σ m 0 0 4) ≤ v2 → Q (-6 : Int32) σ) ∧ (¬ (σ m 0 0 4) ≤ v2 → (((16 : Int32) ≤ v2 → Q (-6 : Int32) σ) ∧ (¬ (16 : Int32) ≤ v2 → (vp_in v2 16 ∧ ∀ i7 : Nat, i7 = v2.toNatClampNeg → (vp_in x1 6 ∧ wp_X4_hasRoomFor m i7 (σ m 1 0 2) (σ m 4 0 x1.toNatClampNeg) σ (fun r8 σ9 => ((r8 = 0 → ∀ x11 : Int32, x11 = v2 + (1 : Int32) → K14 x11 σ9) ∧ (¬ r8 = 0 → Q v2 σ9)))))))))
def wp_X2_tinFor_L14 (m : Nat) (x1 : Int32) (Q : Int32 → Sg → Prop) (v2 : Int32) (σ : Sg) : Prop := ∃ n : Nat, lpN (fun (K : Int32 × Sg → Prop) (a : Int32 × Sg) => st_X2_tinFor_L14 m x1 Q (fun v2 σ => K (v2, σ)) (a.1) (a.2)) n (v2, σ)
set_option maxRecDepth 100000 in
set_option maxHeartbeats 4000000 in
theorem gs_X2_tinFor_L14 {X : Tx} {Q : Int32 → Sg → Prop} (C : Cx X cX2_tinFor "SweetWraps$Machine" (some .int) 1 22 3 (QI (tE X) Q)) {m : Nat} {x1 : Int32} (hm : m < 11) {K14 : Int32 → Sg → Prop} (hK14 : ∀ (v2 : Int32) (σ : Sg), K14 v2 σ → G X σ [(0, .ref (ad (tE X) m 0 0)), (1, .int x1), (2, .int v2)] [] 14) {v2 : Int32} {σ : Sg} (hw : st_X2_tinFor_L14 m x1 Q K14 v2 σ) : G X σ [(0, .ref (ad (tE X) m 0 0)), (1, .int x1), (2, .int v2)] [] 14 := by
  unfold st_X2_tinFor_L14 at hw
  refine gx_iload_n C dX2_tinFor_14 2 rfl ?_
  refine gx_aload_n C dX2_tinFor_15 0 rfl ?_
  refine gx_get C (ok0 hm) rfl rfl inX2 (ref := "SweetWraps$Machine") 4 (by decide) bw_99 rfl rfl dX2_tinFor_16 ?_
  refine gx_icmp_ge (tgt := 60) C dX2_tinFor_19 (by decide) (fun c4 => ?_) (fun c4 => ?_)
  · replace hw := hw.1 c4
    refine gx_bipush (v := (-6 : Int32)) C dX2_tinFor_60 (by decide) ?_
    exact gx_iret C rfl rfl dX2_tinFor_62 hw
  · replace hw := hw.2 c4
    refine gx_iload_n C dX2_tinFor_22 2 rfl ?_
    refine gx_bipush (v := (16 : Int32)) C dX2_tinFor_23 (by decide) ?_
    refine gx_icmp_ge (tgt := 60) C dX2_tinFor_25 (by decide) (fun c5 => ?_) (fun c5 => ?_)
    · replace hw := hw.1 c5
      refine gx_bipush (v := (-6 : Int32)) C dX2_tinFor_60 (by decide) ?_
      exact gx_iret C rfl rfl dX2_tinFor_62 hw
    · replace hw := hw.2 c5
      refine gx_aload_n C dX2_tinFor_28 0 rfl ?_
      refine gx_get C (ok0 hm) rfl rfl inX2 (ref := "SweetWraps$Machine") 2 (by decide) bw_97 rfl rfl dX2_tinFor_29 ?_
      refine gx_iload_n C dX2_tinFor_32 2 rfl ?_
      have h6 := hw.1
      replace hw := hw.2
      obtain ⟨i7, e_i7⟩ : ∃ z : Nat, z = v2.toNatClampNeg := ⟨_, rfl⟩
      replace hw := hw i7 e_i7
      have hi7 : i7 < 16 := by rw [e_i7]; exact vp_lt h6
      refine gx_aald C (ok3 hm) rfl (t0 := 4) rfl h6 (v := .ref (ad (tE X) m 8 i7)) (by rw [e_i7]; rfl) dX2_tinFor_33 ?_
      refine gx_aload_n C dX2_tinFor_34 0 rfl ?_
      refine gx_get C (ok0 hm) rfl rfl inX2 (ref := "SweetWraps$Machine") 0 (by decide) bw_93 rfl rfl dX2_tinFor_35 ?_
      refine gx_iconst (v := (2 : Int32)) C dX2_tinFor_38 (by decide) ?_
      refine gx_iald C (ok1 hm) rfl (n := 4) (x := (2 : Int32)) (by decide) 2 (by decide) dX2_tinFor_39 ?_
      refine gx_aload_n C dX2_tinFor_40 0 rfl ?_
      refine gx_get C (ok0 hm) rfl rfl inX2 (ref := "SweetWraps$Machine") 3 (by decide) bw_98 rfl rfl dX2_tinFor_41 ?_
      refine gx_iload_n C dX2_tinFor_44 1 rfl ?_
      refine gx_iald C (ok4 hm) rfl hw.1 _ rfl dX2_tinFor_45 ?_
      replace hw := hw.2
      refine gx_vcalli (As := [.int (σ m 1 0 2), .int (σ m 4 0 x1.toNatClampNeg)]) (rest := []) C (c_X4_hasRoomFor _ _ hm hi7 hw) (ok8 hm hi7) rfl rfl bw_348 bw_349 bw_350 bw_4 bw_351 hy_X4_hasRoomFor ⟨by decide, by decide⟩ rfl (by decide) dX2_tinFor_46 (fun r8 σ9 hw => ?_)
      refine gx_if_eq (tgt := 54) C dX2_tinFor_49 (by decide) (fun c10 => ?_) (fun c10 => ?_)
      · replace hw := hw.1 c10
        obtain ⟨x11, e_x11⟩ : ∃ z : Int32, z = v2 + (1 : Int32) := ⟨_, rfl⟩
        replace hw := hw x11 e_x11
        refine gx_iinc (v := x11) (lv' := [(2, .int x11), (0, .ref (ad (tE X) m 0 0)), (1, .int x1)]) C dX2_tinFor_54 2 rfl (by rw [e_x11]; rfl) (by decide) rfl ?_
        refine gx_goto (tgt := 14) C dX2_tinFor_57 (by decide) ?_
        refine gx_sub (lv' := [(0, .ref (ad (tE X) m 0 0)), (1, .int x1), (2, .int x11)]) [1, 2, 0] rfl ?_
        exact hK14 _ _ hw
      · replace hw := hw.2 c10
        refine gx_iload_n C dX2_tinFor_52 2 rfl ?_
        exact gx_iret C rfl rfl dX2_tinFor_53 hw
set_option maxRecDepth 100000 in
set_option maxHeartbeats 4000000 in
theorem g_X2_tinFor_L14 {X : Tx} {Q : Int32 → Sg → Prop} (C : Cx X cX2_tinFor "SweetWraps$Machine" (some .int) 1 22 3 (QI (tE X) Q)) {m : Nat} {x1 : Int32} (hm : m < 11) {v2 : Int32} {σ : Sg} (hw : wp_X2_tinFor_L14 m x1 Q v2 σ) : G X σ [(0, .ref (ad (tE X) m 0 0)), (1, .int x1), (2, .int v2)] [] 14 := by
  obtain ⟨n, hw⟩ := hw
  exact lpN_G (P := (fun (a : Int32 × Sg) => G X (a.2) [(0, .ref (ad (tE X) m 0 0)), (1, .int x1), (2, .int (a.1))] [] 14)) (fun K a hK h => gs_X2_tinFor_L14 C hm (fun v2 σ h => hK (v2, σ) h) h) n _ hw
def wp_X2_tinFor (m : Nat) (x1 : Int32) (σ : Sg) (Q : Int32 → Sg → Prop) : Prop := wp_X5_isIndex x1 (6 : Int32) σ (fun r1 σ2 => ((¬ r1 = 0 → wp_X2_tinFor_L14 m x1 Q (0 : Int32) σ2) ∧ (r1 = 0 → Q (-6 : Int32) σ2)))
set_option maxRecDepth 100000 in
set_option maxHeartbeats 4000000 in
theorem c_X2_tinFor (l : Launch) (E : Ev) {m : Nat} {x1 : Int32} (hm : m < 11) {σ : Sg} {Q : Int32 → Sg → Prop} (hw : wp_X2_tinFor m x1 σ Q) : CT l E yX2_tinFor cX2_tinFor 3 (some .int) 1 22 [.ref (ad E m 0 0), .int x1] σ (QI E Q) := by
  refine CT_of (by decide) (Nat.le_of_ble_eq_true rfl) (fun X h1 h2 C => ?_)
  subst h1; subst h2
  have C : Cx X cX2_tinFor "SweetWraps$Machine" (some .int) 1 22 3 (QI (tE X) Q) := C
  show G X σ [(0, .ref (ad (tE X) m 0 0)), (1, .int x1)] [] 0
  unfold wp_X2_tinFor at hw
  refine gx_iload_n C dX2_tinFor_0 1 rfl ?_
  refine gx_bipush (v := (6 : Int32)) C dX2_tinFor_1 (by decide) ?_
  refine gx_ncalli (As := [.int x1, .int (6 : Int32)]) (rest := []) (host := "SweetWraps") C (c_X5_isIndex _ _ hw) (nest_in _ (by decide +kernel)) bw_226 bw_1 bw_227 hyS_X5_isIndex ⟨by decide, by decide⟩ rfl (by decide) dX2_tinFor_3 (fun r1 σ2 hw => ?_)
  refine gx_if_ne (tgt := 12) C dX2_tinFor_6 (by decide) (fun c3 => ?_) (fun c3 => ?_)
  · replace hw := hw.1 c3
    refine gx_iconst (v := (0 : Int32)) C dX2_tinFor_12 (by decide) ?_
    refine gx_istore_n (lv' := [(2, .int (0 : Int32)), (0, .ref (ad (tE X) m 0 0)), (1, .int x1)]) C dX2_tinFor_13 (by decide) rfl ?_
    refine gx_sub (lv' := [(0, .ref (ad (tE X) m 0 0)), (1, .int x1), (2, .int (0 : Int32))]) [1, 2, 0] rfl ?_
    exact g_X2_tinFor_L14 C hm hw
  · replace hw := hw.2 c3
    refine gx_bipush (v := (-6 : Int32)) C dX2_tinFor_9 (by decide) ?_
    exact gx_iret C rfl rfl dX2_tinFor_11 hw
theorem hy_X2_tinFor : yX2_tinFor.cls = "SweetWraps$Machine" ∧ yX2_tinFor.cls ≠ "java/lang/invoke/MethodHandle" ∧ yX2_tinFor.cls ≠ "java/lang/invoke/VarHandle" ∧ (parseMethodDescriptor yX2_tinFor.desc).map (fun d => d.parameters.length) = some 1 := by decide +kernel
end
section
theorem zz_end : True := trivial
end
