section
-- ===== PART A: goes FIRST, ahead of the names: the tables' words, and 'selects' of the private methods out of them =====
/-- a private method of a class that the tables say can be made, by its rows of tables_1 -/
def lw_okq (q : MethodName × Nat) : Prop := (q.1.cls ≠ "java/lang/invoke/MethodHandle" ∧ q.1.cls ≠ "java/lang/invoke/VarHandle") ∧ Cond.instantiable q.1.cls q.2 ∈ tables_1 ∧ Cond.privateMethod q.1 ∈ tables_1 ∧ Cond.instanceMethod q.1 ∈ tables_1
theorem lw_p0 : lw_okq (⟨"LifeLinks$Reader", "startEntry", "()V"⟩, 10) := ⟨⟨by decide +kernel, by decide +kernel⟩, List.mem_of_getElem? (i := 45) (by decide +kernel), List.mem_of_getElem? (i := 385) (by decide +kernel), List.mem_of_getElem? (i := 386) (by decide +kernel)⟩
theorem lw_p1 : lw_okq (⟨"LifeLinks$Reader", "takesKind", "(I)Z"⟩, 10) := ⟨⟨by decide +kernel, by decide +kernel⟩, List.mem_of_getElem? (i := 45) (by decide +kernel), List.mem_of_getElem? (i := 393) (by decide +kernel), List.mem_of_getElem? (i := 394) (by decide +kernel)⟩
theorem lw_p2 : lw_okq (⟨"LifeLinks$Reader", "takesInName", "(I)Z"⟩, 10) := ⟨⟨by decide +kernel, by decide +kernel⟩, List.mem_of_getElem? (i := 45) (by decide +kernel), List.mem_of_getElem? (i := 397) (by decide +kernel), List.mem_of_getElem? (i := 398) (by decide +kernel)⟩
theorem lw_p3 : lw_okq (⟨"LifeLinks$Reader", "takesFigureOfYear", "(I)Z"⟩, 10) := ⟨⟨by decide +kernel, by decide +kernel⟩, List.mem_of_getElem? (i := 45) (by decide +kernel), List.mem_of_getElem? (i := 401) (by decide +kernel), List.mem_of_getElem? (i := 402) (by decide +kernel)⟩
theorem lw_p4 : lw_okq (⟨"LifeLinks$Reader", "takesBehindYear", "(I)Z"⟩, 10) := ⟨⟨by decide +kernel, by decide +kernel⟩, List.mem_of_getElem? (i := 45) (by decide +kernel), List.mem_of_getElem? (i := 405) (by decide +kernel), List.mem_of_getElem? (i := 406) (by decide +kernel)⟩
theorem lw_p5 : lw_okq (⟨"LifeLinks$Reader", "takesInAge", "(I)Z"⟩, 10) := ⟨⟨by decide +kernel, by decide +kernel⟩, List.mem_of_getElem? (i := 45) (by decide +kernel), List.mem_of_getElem? (i := 409) (by decide +kernel), List.mem_of_getElem? (i := 410) (by decide +kernel)⟩
theorem lw_p6 : lw_okq (⟨"LifeLinks$Reader", "ageIsWhole", "()Z"⟩, 10) := ⟨⟨by decide +kernel, by decide +kernel⟩, List.mem_of_getElem? (i := 45) (by decide +kernel), List.mem_of_getElem? (i := 413) (by decide +kernel), List.mem_of_getElem? (i := 414) (by decide +kernel)⟩
theorem lw_p7 : lw_okq (⟨"LifeLinks$Reader", "ageGoesOnWith", "(I)Z"⟩, 10) := ⟨⟨by decide +kernel, by decide +kernel⟩, List.mem_of_getElem? (i := 45) (by decide +kernel), List.mem_of_getElem? (i := 423) (by decide +kernel), List.mem_of_getElem? (i := 424) (by decide +kernel)⟩
theorem lw_p8 : lw_okq (⟨"LifeLinks", "addEntriesOfPage", "()V"⟩, 12) := ⟨⟨by decide +kernel, by decide +kernel⟩, List.mem_of_getElem? (i := 19) (by decide +kernel), List.mem_of_getElem? (i := 441) (by decide +kernel), List.mem_of_getElem? (i := 442) (by decide +kernel)⟩
theorem lw_p9 : lw_okq (⟨"LifeLinks", "settle", "()V"⟩, 12) := ⟨⟨by decide +kernel, by decide +kernel⟩, List.mem_of_getElem? (i := 19) (by decide +kernel), List.mem_of_getElem? (i := 524) (by decide +kernel), List.mem_of_getElem? (i := 525) (by decide +kernel)⟩
theorem lw_p10 : lw_okq (⟨"LifeLinks$Pairs", "settleTwo", "(LLifeLinks$Register;III)V"⟩, 3) := ⟨⟨by decide +kernel, by decide +kernel⟩, List.mem_of_getElem? (i := 190) (by decide +kernel), List.mem_of_getElem? (i := 540) (by decide +kernel), List.mem_of_getElem? (i := 541) (by decide +kernel)⟩
theorem lw_p11 : lw_okq (⟨"LifeLinks$Match", "list", "(LLifeLinks$Register;)V"⟩, 8) := ⟨⟨by decide +kernel, by decide +kernel⟩, List.mem_of_getElem? (i := 212) (by decide +kernel), List.mem_of_getElem? (i := 575) (by decide +kernel), List.mem_of_getElem? (i := 576) (by decide +kernel)⟩
theorem lw_p12 : lw_okq (⟨"LifeLinks$Match", "bestFrom", "(IILLifeLinks$Pairs;)I"⟩, 8) := ⟨⟨by decide +kernel, by decide +kernel⟩, List.mem_of_getElem? (i := 212) (by decide +kernel), List.mem_of_getElem? (i := 579) (by decide +kernel), List.mem_of_getElem? (i := 580) (by decide +kernel)⟩
theorem lw_p13 : lw_okq (⟨"LifeLinks$Match", "isFree", "(IIILLifeLinks$Pairs;)Z"⟩, 8) := ⟨⟨by decide +kernel, by decide +kernel⟩, List.mem_of_getElem? (i := 212) (by decide +kernel), List.mem_of_getElem? (i := 583) (by decide +kernel), List.mem_of_getElem? (i := 584) (by decide +kernel)⟩
theorem lw_p14 : lw_okq (⟨"LifeLinks$Match", "worthWith", "(IIILLifeLinks$Pairs;)I"⟩, 8) := ⟨⟨by decide +kernel, by decide +kernel⟩, List.mem_of_getElem? (i := 212) (by decide +kernel), List.mem_of_getElem? (i := 591) (by decide +kernel), List.mem_of_getElem? (i := 592) (by decide +kernel)⟩
theorem lw_p15 : lw_okq (⟨"LifeLinks$Match", "choose", "(LLifeLinks$Pairs;)V"⟩, 8) := ⟨⟨by decide +kernel, by decide +kernel⟩, List.mem_of_getElem? (i := 212) (by decide +kernel), List.mem_of_getElem? (i := 596) (by decide +kernel), List.mem_of_getElem? (i := 597) (by decide +kernel)⟩
def lw_privs_1 : List (MethodName × Nat) := [(⟨"LifeLinks$Reader", "startEntry", "()V"⟩, 10), (⟨"LifeLinks$Reader", "takesKind", "(I)Z"⟩, 10), (⟨"LifeLinks$Reader", "takesInName", "(I)Z"⟩, 10), (⟨"LifeLinks$Reader", "takesFigureOfYear", "(I)Z"⟩, 10), (⟨"LifeLinks$Reader", "takesBehindYear", "(I)Z"⟩, 10), (⟨"LifeLinks$Reader", "takesInAge", "(I)Z"⟩, 10), (⟨"LifeLinks$Reader", "ageIsWhole", "()Z"⟩, 10), (⟨"LifeLinks$Reader", "ageGoesOnWith", "(I)Z"⟩, 10), (⟨"LifeLinks", "addEntriesOfPage", "()V"⟩, 12), (⟨"LifeLinks", "settle", "()V"⟩, 12), (⟨"LifeLinks$Pairs", "settleTwo", "(LLifeLinks$Register;III)V"⟩, 3), (⟨"LifeLinks$Match", "list", "(LLifeLinks$Register;)V"⟩, 8), (⟨"LifeLinks$Match", "bestFrom", "(IILLifeLinks$Pairs;)I"⟩, 8), (⟨"LifeLinks$Match", "isFree", "(IIILLifeLinks$Pairs;)Z"⟩, 8), (⟨"LifeLinks$Match", "worthWith", "(IIILLifeLinks$Pairs;)I"⟩, 8), (⟨"LifeLinks$Match", "choose", "(LLifeLinks$Pairs;)V"⟩, 8)]
theorem lw_r1 : ∀ q ∈ lw_privs_1, lw_okq q := List.forall_mem_cons.mpr ⟨lw_p0, List.forall_mem_cons.mpr ⟨lw_p1, List.forall_mem_cons.mpr ⟨lw_p2, List.forall_mem_cons.mpr ⟨lw_p3, List.forall_mem_cons.mpr ⟨lw_p4, List.forall_mem_cons.mpr ⟨lw_p5, List.forall_mem_cons.mpr ⟨lw_p6, List.forall_mem_cons.mpr ⟨lw_p7, List.forall_mem_cons.mpr ⟨lw_p8, List.forall_mem_cons.mpr ⟨lw_p9, List.forall_mem_cons.mpr ⟨lw_p10, List.forall_mem_cons.mpr ⟨lw_p11, List.forall_mem_cons.mpr ⟨lw_p12, List.forall_mem_cons.mpr ⟨lw_p13, List.forall_mem_cons.mpr ⟨lw_p14, List.forall_mem_cons.mpr ⟨lw_p15, fun _ h => absurd h List.not_mem_nil⟩⟩⟩⟩⟩⟩⟩⟩⟩⟩⟩⟩⟩⟩⟩⟩
theorem lw_p16 : lw_okq (⟨"LifeLinks$Lives", "openByMatch", "(LLifeLinks$Register;LLifeLinks$Match;)V"⟩, 6) := ⟨⟨by decide +kernel, by decide +kernel⟩, List.mem_of_getElem? (i := 248) (by decide +kernel), List.mem_of_getElem? (i := 604) (by decide +kernel), List.mem_of_getElem? (i := 605) (by decide +kernel)⟩
theorem lw_p17 : lw_okq (⟨"LifeLinks$Lives", "open", "()I"⟩, 6) := ⟨⟨by decide +kernel, by decide +kernel⟩, List.mem_of_getElem? (i := 248) (by decide +kernel), List.mem_of_getElem? (i := 608) (by decide +kernel), List.mem_of_getElem? (i := 609) (by decide +kernel)⟩
theorem lw_p18 : lw_okq (⟨"LifeLinks$Lives", "add", "(IILLifeLinks$Register;)V"⟩, 6) := ⟨⟨by decide +kernel, by decide +kernel⟩, List.mem_of_getElem? (i := 248) (by decide +kernel), List.mem_of_getElem? (i := 616) (by decide +kernel), List.mem_of_getElem? (i := 617) (by decide +kernel)⟩
theorem lw_p19 : lw_okq (⟨"LifeLinks$Lives", "layWedding", "(ILLifeLinks$Register;LLifeLinks$Pairs;I)V"⟩, 6) := ⟨⟨by decide +kernel, by decide +kernel⟩, List.mem_of_getElem? (i := 248) (by decide +kernel), List.mem_of_getElem? (i := 634) (by decide +kernel), List.mem_of_getElem? (i := 635) (by decide +kernel)⟩
theorem lw_p20 : lw_okq (⟨"LifeLinks$Lives", "hasRival", "(II)Z"⟩, 6) := ⟨⟨by decide +kernel, by decide +kernel⟩, List.mem_of_getElem? (i := 248) (by decide +kernel), List.mem_of_getElem? (i := 654) (by decide +kernel), List.mem_of_getElem? (i := 655) (by decide +kernel)⟩
theorem lw_p21 : lw_okq (⟨"LifeLinks", "tellEntry", "(II)I"⟩, 12) := ⟨⟨by decide +kernel, by decide +kernel⟩, List.mem_of_getElem? (i := 19) (by decide +kernel), List.mem_of_getElem? (i := 658) (by decide +kernel), List.mem_of_getElem? (i := 659) (by decide +kernel)⟩
theorem lw_p22 : lw_okq (⟨"LifeLinks", "areTwo", "(II)Z"⟩, 12) := ⟨⟨by decide +kernel, by decide +kernel⟩, List.mem_of_getElem? (i := 19) (by decide +kernel), List.mem_of_getElem? (i := 687) (by decide +kernel), List.mem_of_getElem? (i := 688) (by decide +kernel)⟩
theorem lw_p23 : lw_okq (⟨"LifeLinks", "tellTwo", "(III)I"⟩, 12) := ⟨⟨by decide +kernel, by decide +kernel⟩, List.mem_of_getElem? (i := 19) (by decide +kernel), List.mem_of_getElem? (i := 704) (by decide +kernel), List.mem_of_getElem? (i := 705) (by decide +kernel)⟩
theorem lw_p24 : lw_okq (⟨"LifeLinks", "tellLives", "(I)I"⟩, 12) := ⟨⟨by decide +kernel, by decide +kernel⟩, List.mem_of_getElem? (i := 19) (by decide +kernel), List.mem_of_getElem? (i := 731) (by decide +kernel), List.mem_of_getElem? (i := 732) (by decide +kernel)⟩
theorem lw_p25 : lw_okq (⟨"LifeLinks", "mixEntries", "(J)J"⟩, 12) := ⟨⟨by decide +kernel, by decide +kernel⟩, List.mem_of_getElem? (i := 19) (by decide +kernel), List.mem_of_getElem? (i := 789) (by decide +kernel), List.mem_of_getElem? (i := 790) (by decide +kernel)⟩
theorem lw_p26 : lw_okq (⟨"LifeLinks", "mixTwos", "(J)J"⟩, 12) := ⟨⟨by decide +kernel, by decide +kernel⟩, List.mem_of_getElem? (i := 19) (by decide +kernel), List.mem_of_getElem? (i := 797) (by decide +kernel), List.mem_of_getElem? (i := 798) (by decide +kernel)⟩
theorem lw_p27 : lw_okq (⟨"LifeLinks", "mixLives", "(J)J"⟩, 12) := ⟨⟨by decide +kernel, by decide +kernel⟩, List.mem_of_getElem? (i := 19) (by decide +kernel), List.mem_of_getElem? (i := 801) (by decide +kernel), List.mem_of_getElem? (i := 802) (by decide +kernel)⟩
theorem lw_p28 : lw_okq (⟨"LifeLinksModel", "read", "()I"⟩, 34) := ⟨⟨by decide +kernel, by decide +kernel⟩, List.mem_of_getElem? (i := 806) (by decide +kernel), List.mem_of_getElem? (i := 930) (by decide +kernel), List.mem_of_getElem? (i := 931) (by decide +kernel)⟩
theorem lw_p29 : lw_okq (⟨"LifeLinksModel", "takes", "(I)Z"⟩, 34) := ⟨⟨by decide +kernel, by decide +kernel⟩, List.mem_of_getElem? (i := 806) (by decide +kernel), List.mem_of_getElem? (i := 934) (by decide +kernel), List.mem_of_getElem? (i := 935) (by decide +kernel)⟩
theorem lw_p30 : lw_okq (⟨"LifeLinksModel", "takesKind", "(I)Z"⟩, 34) := ⟨⟨by decide +kernel, by decide +kernel⟩, List.mem_of_getElem? (i := 806) (by decide +kernel), List.mem_of_getElem? (i := 938) (by decide +kernel), List.mem_of_getElem? (i := 939) (by decide +kernel)⟩
theorem lw_p31 : lw_okq (⟨"LifeLinksModel", "goes", "(ZI)Z"⟩, 34) := ⟨⟨by decide +kernel, by decide +kernel⟩, List.mem_of_getElem? (i := 806) (by decide +kernel), List.mem_of_getElem? (i := 942) (by decide +kernel), List.mem_of_getElem? (i := 943) (by decide +kernel)⟩
def lw_privs_2 : List (MethodName × Nat) := [(⟨"LifeLinks$Lives", "openByMatch", "(LLifeLinks$Register;LLifeLinks$Match;)V"⟩, 6), (⟨"LifeLinks$Lives", "open", "()I"⟩, 6), (⟨"LifeLinks$Lives", "add", "(IILLifeLinks$Register;)V"⟩, 6), (⟨"LifeLinks$Lives", "layWedding", "(ILLifeLinks$Register;LLifeLinks$Pairs;I)V"⟩, 6), (⟨"LifeLinks$Lives", "hasRival", "(II)Z"⟩, 6), (⟨"LifeLinks", "tellEntry", "(II)I"⟩, 12), (⟨"LifeLinks", "areTwo", "(II)Z"⟩, 12), (⟨"LifeLinks", "tellTwo", "(III)I"⟩, 12), (⟨"LifeLinks", "tellLives", "(I)I"⟩, 12), (⟨"LifeLinks", "mixEntries", "(J)J"⟩, 12), (⟨"LifeLinks", "mixTwos", "(J)J"⟩, 12), (⟨"LifeLinks", "mixLives", "(J)J"⟩, 12), (⟨"LifeLinksModel", "read", "()I"⟩, 34), (⟨"LifeLinksModel", "takes", "(I)Z"⟩, 34), (⟨"LifeLinksModel", "takesKind", "(I)Z"⟩, 34), (⟨"LifeLinksModel", "goes", "(ZI)Z"⟩, 34)]
theorem lw_r2 : ∀ q ∈ lw_privs_2, lw_okq q := List.forall_mem_cons.mpr ⟨lw_p16, List.forall_mem_cons.mpr ⟨lw_p17, List.forall_mem_cons.mpr ⟨lw_p18, List.forall_mem_cons.mpr ⟨lw_p19, List.forall_mem_cons.mpr ⟨lw_p20, List.forall_mem_cons.mpr ⟨lw_p21, List.forall_mem_cons.mpr ⟨lw_p22, List.forall_mem_cons.mpr ⟨lw_p23, List.forall_mem_cons.mpr ⟨lw_p24, List.forall_mem_cons.mpr ⟨lw_p25, List.forall_mem_cons.mpr ⟨lw_p26, List.forall_mem_cons.mpr ⟨lw_p27, List.forall_mem_cons.mpr ⟨lw_p28, List.forall_mem_cons.mpr ⟨lw_p29, List.forall_mem_cons.mpr ⟨lw_p30, List.forall_mem_cons.mpr ⟨lw_p31, fun _ h => absurd h List.not_mem_nil⟩⟩⟩⟩⟩⟩⟩⟩⟩⟩⟩⟩⟩⟩⟩⟩
theorem lw_p32 : lw_okq (⟨"LifeLinksModel", "takesName", "(II)Z"⟩, 34) := ⟨⟨by decide +kernel, by decide +kernel⟩, List.mem_of_getElem? (i := 806) (by decide +kernel), List.mem_of_getElem? (i := 946) (by decide +kernel), List.mem_of_getElem? (i := 947) (by decide +kernel)⟩
theorem lw_p33 : lw_okq (⟨"LifeLinksModel", "takesYear", "(II)Z"⟩, 34) := ⟨⟨by decide +kernel, by decide +kernel⟩, List.mem_of_getElem? (i := 806) (by decide +kernel), List.mem_of_getElem? (i := 950) (by decide +kernel), List.mem_of_getElem? (i := 951) (by decide +kernel)⟩
theorem lw_p34 : lw_okq (⟨"LifeLinksModel", "takesAge", "(II)Z"⟩, 34) := ⟨⟨by decide +kernel, by decide +kernel⟩, List.mem_of_getElem? (i := 806) (by decide +kernel), List.mem_of_getElem? (i := 954) (by decide +kernel), List.mem_of_getElem? (i := 955) (by decide +kernel)⟩
theorem lw_p35 : lw_okq (⟨"LifeLinksModel", "takesEnd", "(II)Z"⟩, 34) := ⟨⟨by decide +kernel, by decide +kernel⟩, List.mem_of_getElem? (i := 806) (by decide +kernel), List.mem_of_getElem? (i := 958) (by decide +kernel), List.mem_of_getElem? (i := 959) (by decide +kernel)⟩
theorem lw_p36 : lw_okq (⟨"LifeLinksModel", "isRoom", "()Z"⟩, 34) := ⟨⟨by decide +kernel, by decide +kernel⟩, List.mem_of_getElem? (i := 806) (by decide +kernel), List.mem_of_getElem? (i := 966) (by decide +kernel), List.mem_of_getElem? (i := 967) (by decide +kernel)⟩
theorem lw_p37 : lw_okq (⟨"LifeLinksModel", "ofKind", "(I)I"⟩, 34) := ⟨⟨by decide +kernel, by decide +kernel⟩, List.mem_of_getElem? (i := 806) (by decide +kernel), List.mem_of_getElem? (i := 970) (by decide +kernel), List.mem_of_getElem? (i := 971) (by decide +kernel)⟩
theorem lw_p38 : lw_okq (⟨"LifeLinksModel", "newOfKind", "(I)I"⟩, 34) := ⟨⟨by decide +kernel, by decide +kernel⟩, List.mem_of_getElem? (i := 806) (by decide +kernel), List.mem_of_getElem? (i := 974) (by decide +kernel), List.mem_of_getElem? (i := 975) (by decide +kernel)⟩
theorem lw_p39 : lw_okq (⟨"LifeLinksModel", "isEntry", "(I)Z"⟩, 34) := ⟨⟨by decide +kernel, by decide +kernel⟩, List.mem_of_getElem? (i := 806) (by decide +kernel), List.mem_of_getElem? (i := 982) (by decide +kernel), List.mem_of_getElem? (i := 983) (by decide +kernel)⟩
theorem lw_p40 : lw_okq (⟨"LifeLinksModel", "twoNow", "(III)I"⟩, 34) := ⟨⟨by decide +kernel, by decide +kernel⟩, List.mem_of_getElem? (i := 806) (by decide +kernel), List.mem_of_getElem? (i := 986) (by decide +kernel), List.mem_of_getElem? (i := 987) (by decide +kernel)⟩
theorem lw_p41 : lw_okq (⟨"LifeLinksModel", "distance", "(II)I"⟩, 34) := ⟨⟨by decide +kernel, by decide +kernel⟩, List.mem_of_getElem? (i := 806) (by decide +kernel), List.mem_of_getElem? (i := 990) (by decide +kernel), List.mem_of_getElem? (i := 991) (by decide +kernel)⟩
theorem lw_p42 : lw_okq (⟨"LifeLinksModel", "likeness", "(II)I"⟩, 34) := ⟨⟨by decide +kernel, by decide +kernel⟩, List.mem_of_getElem? (i := 806) (by decide +kernel), List.mem_of_getElem? (i := 1003) (by decide +kernel), List.mem_of_getElem? (i := 1004) (by decide +kernel)⟩
theorem lw_p43 : lw_okq (⟨"LifeLinksModel", "why", "(II)I"⟩, 34) := ⟨⟨by decide +kernel, by decide +kernel⟩, List.mem_of_getElem? (i := 806) (by decide +kernel), List.mem_of_getElem? (i := 1010) (by decide +kernel), List.mem_of_getElem? (i := 1011) (by decide +kernel)⟩
theorem lw_p44 : lw_okq (⟨"LifeLinksModel", "isParted", "(II)Z"⟩, 34) := ⟨⟨by decide +kernel, by decide +kernel⟩, List.mem_of_getElem? (i := 806) (by decide +kernel), List.mem_of_getElem? (i := 1014) (by decide +kernel), List.mem_of_getElem? (i := 1015) (by decide +kernel)⟩
theorem lw_p45 : lw_okq (⟨"LifeLinksModel", "isOutOfOrder", "(II)Z"⟩, 34) := ⟨⟨by decide +kernel, by decide +kernel⟩, List.mem_of_getElem? (i := 806) (by decide +kernel), List.mem_of_getElem? (i := 1018) (by decide +kernel), List.mem_of_getElem? (i := 1019) (by decide +kernel)⟩
theorem lw_p46 : lw_okq (⟨"LifeLinksModel", "yearsOf", "(II)I"⟩, 34) := ⟨⟨by decide +kernel, by decide +kernel⟩, List.mem_of_getElem? (i := 806) (by decide +kernel), List.mem_of_getElem? (i := 1022) (by decide +kernel), List.mem_of_getElem? (i := 1023) (by decide +kernel)⟩
theorem lw_p47 : lw_okq (⟨"LifeLinksModel", "firstBorn", "(I)I"⟩, 34) := ⟨⟨by decide +kernel, by decide +kernel⟩, List.mem_of_getElem? (i := 806) (by decide +kernel), List.mem_of_getElem? (i := 1026) (by decide +kernel), List.mem_of_getElem? (i := 1027) (by decide +kernel)⟩
def lw_privs_3 : List (MethodName × Nat) := [(⟨"LifeLinksModel", "takesName", "(II)Z"⟩, 34), (⟨"LifeLinksModel", "takesYear", "(II)Z"⟩, 34), (⟨"LifeLinksModel", "takesAge", "(II)Z"⟩, 34), (⟨"LifeLinksModel", "takesEnd", "(II)Z"⟩, 34), (⟨"LifeLinksModel", "isRoom", "()Z"⟩, 34), (⟨"LifeLinksModel", "ofKind", "(I)I"⟩, 34), (⟨"LifeLinksModel", "newOfKind", "(I)I"⟩, 34), (⟨"LifeLinksModel", "isEntry", "(I)Z"⟩, 34), (⟨"LifeLinksModel", "twoNow", "(III)I"⟩, 34), (⟨"LifeLinksModel", "distance", "(II)I"⟩, 34), (⟨"LifeLinksModel", "likeness", "(II)I"⟩, 34), (⟨"LifeLinksModel", "why", "(II)I"⟩, 34), (⟨"LifeLinksModel", "isParted", "(II)Z"⟩, 34), (⟨"LifeLinksModel", "isOutOfOrder", "(II)Z"⟩, 34), (⟨"LifeLinksModel", "yearsOf", "(II)I"⟩, 34), (⟨"LifeLinksModel", "firstBorn", "(I)I"⟩, 34)]
theorem lw_r3 : ∀ q ∈ lw_privs_3, lw_okq q := List.forall_mem_cons.mpr ⟨lw_p32, List.forall_mem_cons.mpr ⟨lw_p33, List.forall_mem_cons.mpr ⟨lw_p34, List.forall_mem_cons.mpr ⟨lw_p35, List.forall_mem_cons.mpr ⟨lw_p36, List.forall_mem_cons.mpr ⟨lw_p37, List.forall_mem_cons.mpr ⟨lw_p38, List.forall_mem_cons.mpr ⟨lw_p39, List.forall_mem_cons.mpr ⟨lw_p40, List.forall_mem_cons.mpr ⟨lw_p41, List.forall_mem_cons.mpr ⟨lw_p42, List.forall_mem_cons.mpr ⟨lw_p43, List.forall_mem_cons.mpr ⟨lw_p44, List.forall_mem_cons.mpr ⟨lw_p45, List.forall_mem_cons.mpr ⟨lw_p46, List.forall_mem_cons.mpr ⟨lw_p47, fun _ h => absurd h List.not_mem_nil⟩⟩⟩⟩⟩⟩⟩⟩⟩⟩⟩⟩⟩⟩⟩⟩
theorem lw_p48 : lw_okq (⟨"LifeLinksModel", "lastBorn", "(I)I"⟩, 34) := ⟨⟨by decide +kernel, by decide +kernel⟩, List.mem_of_getElem? (i := 806) (by decide +kernel), List.mem_of_getElem? (i := 1030) (by decide +kernel), List.mem_of_getElem? (i := 1031) (by decide +kernel)⟩
theorem lw_p49 : lw_okq (⟨"LifeLinksModel", "worthOf", "(II)I"⟩, 34) := ⟨⟨by decide +kernel, by decide +kernel⟩, List.mem_of_getElem? (i := 806) (by decide +kernel), List.mem_of_getElem? (i := 1034) (by decide +kernel), List.mem_of_getElem? (i := 1035) (by decide +kernel)⟩
theorem lw_p50 : lw_okq (⟨"LifeLinksModel", "isFit", "(II)Z"⟩, 34) := ⟨⟨by decide +kernel, by decide +kernel⟩, List.mem_of_getElem? (i := 806) (by decide +kernel), List.mem_of_getElem? (i := 1038) (by decide +kernel), List.mem_of_getElem? (i := 1039) (by decide +kernel)⟩
theorem lw_p51 : lw_okq (⟨"LifeLinksModel", "fitsNow", "(I)I"⟩, 34) := ⟨⟨by decide +kernel, by decide +kernel⟩, List.mem_of_getElem? (i := 806) (by decide +kernel), List.mem_of_getElem? (i := 1046) (by decide +kernel), List.mem_of_getElem? (i := 1047) (by decide +kernel)⟩
theorem lw_p52 : lw_okq (⟨"LifeLinksModel", "nearestNow", "(I)I"⟩, 34) := ⟨⟨by decide +kernel, by decide +kernel⟩, List.mem_of_getElem? (i := 806) (by decide +kernel), List.mem_of_getElem? (i := 1054) (by decide +kernel), List.mem_of_getElem? (i := 1055) (by decide +kernel)⟩
theorem lw_p53 : lw_okq (⟨"LifeLinksModel", "livesNow", "(I)I"⟩, 34) := ⟨⟨by decide +kernel, by decide +kernel⟩, List.mem_of_getElem? (i := 806) (by decide +kernel), List.mem_of_getElem? (i := 1062) (by decide +kernel), List.mem_of_getElem? (i := 1063) (by decide +kernel)⟩
theorem lw_p54 : lw_okq (⟨"LifeLinksModel", "layLives", "()V"⟩, 34) := ⟨⟨by decide +kernel, by decide +kernel⟩, List.mem_of_getElem? (i := 806) (by decide +kernel), List.mem_of_getElem? (i := 1066) (by decide +kernel), List.mem_of_getElem? (i := 1067) (by decide +kernel)⟩
theorem lw_p55 : lw_okq (⟨"LifeLinksModel", "layFirstLives", "()V"⟩, 34) := ⟨⟨by decide +kernel, by decide +kernel⟩, List.mem_of_getElem? (i := 806) (by decide +kernel), List.mem_of_getElem? (i := 1070) (by decide +kernel), List.mem_of_getElem? (i := 1071) (by decide +kernel)⟩
theorem lw_p56 : lw_okq (⟨"LifeLinksModel", "layPairs", "()V"⟩, 34) := ⟨⟨by decide +kernel, by decide +kernel⟩, List.mem_of_getElem? (i := 806) (by decide +kernel), List.mem_of_getElem? (i := 1074) (by decide +kernel), List.mem_of_getElem? (i := 1075) (by decide +kernel)⟩
theorem lw_p57 : lw_okq (⟨"LifeLinksModel", "listKinds", "()V"⟩, 34) := ⟨⟨by decide +kernel, by decide +kernel⟩, List.mem_of_getElem? (i := 806) (by decide +kernel), List.mem_of_getElem? (i := 1078) (by decide +kernel), List.mem_of_getElem? (i := 1079) (by decide +kernel)⟩
theorem lw_p58 : lw_okq (⟨"LifeLinksModel", "layBest", "()V"⟩, 34) := ⟨⟨by decide +kernel, by decide +kernel⟩, List.mem_of_getElem? (i := 806) (by decide +kernel), List.mem_of_getElem? (i := 1082) (by decide +kernel), List.mem_of_getElem? (i := 1083) (by decide +kernel)⟩
theorem lw_p59 : lw_okq (⟨"LifeLinksModel", "bestWith", "(III)I"⟩, 34) := ⟨⟨by decide +kernel, by decide +kernel⟩, List.mem_of_getElem? (i := 806) (by decide +kernel), List.mem_of_getElem? (i := 1086) (by decide +kernel), List.mem_of_getElem? (i := 1087) (by decide +kernel)⟩
theorem lw_p60 : lw_okq (⟨"LifeLinksModel", "beginLife", "(II)V"⟩, 34) := ⟨⟨by decide +kernel, by decide +kernel⟩, List.mem_of_getElem? (i := 806) (by decide +kernel), List.mem_of_getElem? (i := 1090) (by decide +kernel), List.mem_of_getElem? (i := 1091) (by decide +kernel)⟩
theorem lw_p61 : lw_okq (⟨"LifeLinksModel", "layWedding", "(I)V"⟩, 34) := ⟨⟨by decide +kernel, by decide +kernel⟩, List.mem_of_getElem? (i := 806) (by decide +kernel), List.mem_of_getElem? (i := 1094) (by decide +kernel), List.mem_of_getElem? (i := 1095) (by decide +kernel)⟩
theorem lw_p62 : lw_okq (⟨"LifeLinksModel", "bestLife", "(I)I"⟩, 34) := ⟨⟨by decide +kernel, by decide +kernel⟩, List.mem_of_getElem? (i := 806) (by decide +kernel), List.mem_of_getElem? (i := 1098) (by decide +kernel), List.mem_of_getElem? (i := 1099) (by decide +kernel)⟩
theorem lw_p63 : lw_okq (⟨"LifeLinksModel", "canGo", "(II)Z"⟩, 34) := ⟨⟨by decide +kernel, by decide +kernel⟩, List.mem_of_getElem? (i := 806) (by decide +kernel), List.mem_of_getElem? (i := 1102) (by decide +kernel), List.mem_of_getElem? (i := 1103) (by decide +kernel)⟩
def lw_privs_4 : List (MethodName × Nat) := [(⟨"LifeLinksModel", "lastBorn", "(I)I"⟩, 34), (⟨"LifeLinksModel", "worthOf", "(II)I"⟩, 34), (⟨"LifeLinksModel", "isFit", "(II)Z"⟩, 34), (⟨"LifeLinksModel", "fitsNow", "(I)I"⟩, 34), (⟨"LifeLinksModel", "nearestNow", "(I)I"⟩, 34), (⟨"LifeLinksModel", "livesNow", "(I)I"⟩, 34), (⟨"LifeLinksModel", "layLives", "()V"⟩, 34), (⟨"LifeLinksModel", "layFirstLives", "()V"⟩, 34), (⟨"LifeLinksModel", "layPairs", "()V"⟩, 34), (⟨"LifeLinksModel", "listKinds", "()V"⟩, 34), (⟨"LifeLinksModel", "layBest", "()V"⟩, 34), (⟨"LifeLinksModel", "bestWith", "(III)I"⟩, 34), (⟨"LifeLinksModel", "beginLife", "(II)V"⟩, 34), (⟨"LifeLinksModel", "layWedding", "(I)V"⟩, 34), (⟨"LifeLinksModel", "bestLife", "(I)I"⟩, 34), (⟨"LifeLinksModel", "canGo", "(II)Z"⟩, 34)]
theorem lw_r4 : ∀ q ∈ lw_privs_4, lw_okq q := List.forall_mem_cons.mpr ⟨lw_p48, List.forall_mem_cons.mpr ⟨lw_p49, List.forall_mem_cons.mpr ⟨lw_p50, List.forall_mem_cons.mpr ⟨lw_p51, List.forall_mem_cons.mpr ⟨lw_p52, List.forall_mem_cons.mpr ⟨lw_p53, List.forall_mem_cons.mpr ⟨lw_p54, List.forall_mem_cons.mpr ⟨lw_p55, List.forall_mem_cons.mpr ⟨lw_p56, List.forall_mem_cons.mpr ⟨lw_p57, List.forall_mem_cons.mpr ⟨lw_p58, List.forall_mem_cons.mpr ⟨lw_p59, List.forall_mem_cons.mpr ⟨lw_p60, List.forall_mem_cons.mpr ⟨lw_p61, List.forall_mem_cons.mpr ⟨lw_p62, List.forall_mem_cons.mpr ⟨lw_p63, fun _ h => absurd h List.not_mem_nil⟩⟩⟩⟩⟩⟩⟩⟩⟩⟩⟩⟩⟩⟩⟩⟩
theorem lw_p64 : lw_okq (⟨"LifeLinksModel", "isOf", "(II)Z"⟩, 34) := ⟨⟨by decide +kernel, by decide +kernel⟩, List.mem_of_getElem? (i := 806) (by decide +kernel), List.mem_of_getElem? (i := 1106) (by decide +kernel), List.mem_of_getElem? (i := 1107) (by decide +kernel)⟩
theorem lw_p65 : lw_okq (⟨"LifeLinksModel", "worthAt", "(II)I"⟩, 34) := ⟨⟨by decide +kernel, by decide +kernel⟩, List.mem_of_getElem? (i := 806) (by decide +kernel), List.mem_of_getElem? (i := 1110) (by decide +kernel), List.mem_of_getElem? (i := 1111) (by decide +kernel)⟩
theorem lw_p66 : lw_okq (⟨"LifeLinksModel", "isInDoubt", "(II)Z"⟩, 34) := ⟨⟨by decide +kernel, by decide +kernel⟩, List.mem_of_getElem? (i := 806) (by decide +kernel), List.mem_of_getElem? (i := 1114) (by decide +kernel), List.mem_of_getElem? (i := 1115) (by decide +kernel)⟩
theorem lw_p67 : lw_okq (⟨"LifeLinksModel", "doubtful", "()I"⟩, 34) := ⟨⟨by decide +kernel, by decide +kernel⟩, List.mem_of_getElem? (i := 806) (by decide +kernel), List.mem_of_getElem? (i := 1118) (by decide +kernel), List.mem_of_getElem? (i := 1119) (by decide +kernel)⟩
theorem lw_p68 : lw_okq (⟨"LifeLinksModel", "shakyMany", "()I"⟩, 34) := ⟨⟨by decide +kernel, by decide +kernel⟩, List.mem_of_getElem? (i := 806) (by decide +kernel), List.mem_of_getElem? (i := 1122) (by decide +kernel), List.mem_of_getElem? (i := 1123) (by decide +kernel)⟩
theorem lw_p69 : lw_okq (⟨"LifeLinksModel", "isShaky", "(I)Z"⟩, 34) := ⟨⟨by decide +kernel, by decide +kernel⟩, List.mem_of_getElem? (i := 806) (by decide +kernel), List.mem_of_getElem? (i := 1126) (by decide +kernel), List.mem_of_getElem? (i := 1127) (by decide +kernel)⟩
theorem lw_p70 : lw_okq (⟨"LifeLinksModel", "onlyMany", "()I"⟩, 34) := ⟨⟨by decide +kernel, by decide +kernel⟩, List.mem_of_getElem? (i := 806) (by decide +kernel), List.mem_of_getElem? (i := 1130) (by decide +kernel), List.mem_of_getElem? (i := 1131) (by decide +kernel)⟩
theorem lw_p71 : lw_okq (⟨"LifeLinksModel", "entriesOf", "(I)I"⟩, 34) := ⟨⟨by decide +kernel, by decide +kernel⟩, List.mem_of_getElem? (i := 806) (by decide +kernel), List.mem_of_getElem? (i := 1134) (by decide +kernel), List.mem_of_getElem? (i := 1135) (by decide +kernel)⟩
theorem lw_p72 : lw_okq (⟨"LifeLinksModel", "lifeNow", "(II)I"⟩, 34) := ⟨⟨by decide +kernel, by decide +kernel⟩, List.mem_of_getElem? (i := 806) (by decide +kernel), List.mem_of_getElem? (i := 1142) (by decide +kernel), List.mem_of_getElem? (i := 1143) (by decide +kernel)⟩
theorem lw_p73 : lw_okq (⟨"LifeLinksModel", "bornOf", "(IZ)I"⟩, 34) := ⟨⟨by decide +kernel, by decide +kernel⟩, List.mem_of_getElem? (i := 806) (by decide +kernel), List.mem_of_getElem? (i := 1146) (by decide +kernel), List.mem_of_getElem? (i := 1147) (by decide +kernel)⟩
theorem lw_p74 : lw_okq (⟨"LifeLinksModel", "lastYear", "(I)I"⟩, 34) := ⟨⟨by decide +kernel, by decide +kernel⟩, List.mem_of_getElem? (i := 806) (by decide +kernel), List.mem_of_getElem? (i := 1151) (by decide +kernel), List.mem_of_getElem? (i := 1152) (by decide +kernel)⟩
theorem lw_p75 : lw_okq (⟨"LifeLinksModel", "weddingAt", "(II)I"⟩, 34) := ⟨⟨by decide +kernel, by decide +kernel⟩, List.mem_of_getElem? (i := 806) (by decide +kernel), List.mem_of_getElem? (i := 1159) (by decide +kernel), List.mem_of_getElem? (i := 1160) (by decide +kernel)⟩
theorem lw_p76 : lw_okq (⟨"LifeLinksModel", "entryTold", "(II)I"⟩, 34) := ⟨⟨by decide +kernel, by decide +kernel⟩, List.mem_of_getElem? (i := 806) (by decide +kernel), List.mem_of_getElem? (i := 1175) (by decide +kernel), List.mem_of_getElem? (i := 1176) (by decide +kernel)⟩
theorem lw_p77 : lw_okq (⟨"LifeLinksModel", "entryNow", "(II)I"⟩, 34) := ⟨⟨by decide +kernel, by decide +kernel⟩, List.mem_of_getElem? (i := 806) (by decide +kernel), List.mem_of_getElem? (i := 1179) (by decide +kernel), List.mem_of_getElem? (i := 1180) (by decide +kernel)⟩
theorem lw_p78 : lw_okq (⟨"LifeLinksModel", "isAge", "(II)Z"⟩, 34) := ⟨⟨by decide +kernel, by decide +kernel⟩, List.mem_of_getElem? (i := 806) (by decide +kernel), List.mem_of_getElem? (i := 1202) (by decide +kernel), List.mem_of_getElem? (i := 1203) (by decide +kernel)⟩
theorem lw_p79 : lw_okq (⟨"LifeLinksModel", "howMany", "(I)I"⟩, 34) := ⟨⟨by decide +kernel, by decide +kernel⟩, List.mem_of_getElem? (i := 806) (by decide +kernel), List.mem_of_getElem? (i := 1218) (by decide +kernel), List.mem_of_getElem? (i := 1219) (by decide +kernel)⟩
def lw_privs_5 : List (MethodName × Nat) := [(⟨"LifeLinksModel", "isOf", "(II)Z"⟩, 34), (⟨"LifeLinksModel", "worthAt", "(II)I"⟩, 34), (⟨"LifeLinksModel", "isInDoubt", "(II)Z"⟩, 34), (⟨"LifeLinksModel", "doubtful", "()I"⟩, 34), (⟨"LifeLinksModel", "shakyMany", "()I"⟩, 34), (⟨"LifeLinksModel", "isShaky", "(I)Z"⟩, 34), (⟨"LifeLinksModel", "onlyMany", "()I"⟩, 34), (⟨"LifeLinksModel", "entriesOf", "(I)I"⟩, 34), (⟨"LifeLinksModel", "lifeNow", "(II)I"⟩, 34), (⟨"LifeLinksModel", "bornOf", "(IZ)I"⟩, 34), (⟨"LifeLinksModel", "lastYear", "(I)I"⟩, 34), (⟨"LifeLinksModel", "weddingAt", "(II)I"⟩, 34), (⟨"LifeLinksModel", "entryTold", "(II)I"⟩, 34), (⟨"LifeLinksModel", "entryNow", "(II)I"⟩, 34), (⟨"LifeLinksModel", "isAge", "(II)Z"⟩, 34), (⟨"LifeLinksModel", "howMany", "(I)I"⟩, 34)]
theorem lw_r5 : ∀ q ∈ lw_privs_5, lw_okq q := List.forall_mem_cons.mpr ⟨lw_p64, List.forall_mem_cons.mpr ⟨lw_p65, List.forall_mem_cons.mpr ⟨lw_p66, List.forall_mem_cons.mpr ⟨lw_p67, List.forall_mem_cons.mpr ⟨lw_p68, List.forall_mem_cons.mpr ⟨lw_p69, List.forall_mem_cons.mpr ⟨lw_p70, List.forall_mem_cons.mpr ⟨lw_p71, List.forall_mem_cons.mpr ⟨lw_p72, List.forall_mem_cons.mpr ⟨lw_p73, List.forall_mem_cons.mpr ⟨lw_p74, List.forall_mem_cons.mpr ⟨lw_p75, List.forall_mem_cons.mpr ⟨lw_p76, List.forall_mem_cons.mpr ⟨lw_p77, List.forall_mem_cons.mpr ⟨lw_p78, List.forall_mem_cons.mpr ⟨lw_p79, fun _ h => absurd h List.not_mem_nil⟩⟩⟩⟩⟩⟩⟩⟩⟩⟩⟩⟩⟩⟩⟩⟩
theorem lw_p80 : lw_okq (⟨"LifeLinksModel", "partedMany", "()I"⟩, 34) := ⟨⟨by decide +kernel, by decide +kernel⟩, List.mem_of_getElem? (i := 806) (by decide +kernel), List.mem_of_getElem? (i := 1222) (by decide +kernel), List.mem_of_getElem? (i := 1223) (by decide +kernel)⟩
theorem lw_p81 : lw_okq (⟨"LifeLinksModel", "mixEntries", "()V"⟩, 34) := ⟨⟨by decide +kernel, by decide +kernel⟩, List.mem_of_getElem? (i := 806) (by decide +kernel), List.mem_of_getElem? (i := 1231) (by decide +kernel), List.mem_of_getElem? (i := 1232) (by decide +kernel)⟩
theorem lw_p82 : lw_okq (⟨"LifeLinksModel", "mix", "(J)V"⟩, 34) := ⟨⟨by decide +kernel, by decide +kernel⟩, List.mem_of_getElem? (i := 806) (by decide +kernel), List.mem_of_getElem? (i := 1235) (by decide +kernel), List.mem_of_getElem? (i := 1236) (by decide +kernel)⟩
theorem lw_p83 : lw_okq (⟨"LifeLinksModel", "mixLives", "()V"⟩, 34) := ⟨⟨by decide +kernel, by decide +kernel⟩, List.mem_of_getElem? (i := 806) (by decide +kernel), List.mem_of_getElem? (i := 1240) (by decide +kernel), List.mem_of_getElem? (i := 1241) (by decide +kernel)⟩
def lw_privs_6 : List (MethodName × Nat) := [(⟨"LifeLinksModel", "partedMany", "()I"⟩, 34), (⟨"LifeLinksModel", "mixEntries", "()V"⟩, 34), (⟨"LifeLinksModel", "mix", "(J)V"⟩, 34), (⟨"LifeLinksModel", "mixLives", "()V"⟩, 34)]
theorem lw_r6 : ∀ q ∈ lw_privs_6, lw_okq q := List.forall_mem_cons.mpr ⟨lw_p80, List.forall_mem_cons.mpr ⟨lw_p81, List.forall_mem_cons.mpr ⟨lw_p82, List.forall_mem_cons.mpr ⟨lw_p83, fun _ h => absurd h List.not_mem_nil⟩⟩⟩⟩
def lw_privs : List (MethodName × Nat) := lw_privs_1 ++ (lw_privs_2 ++ (lw_privs_3 ++ (lw_privs_4 ++ (lw_privs_5 ++ (lw_privs_6)))))
def lw_tbl : List Cond := k2_sels lw_privs ++ tables_1
theorem lw_privs_ok : ∀ q ∈ lw_privs, lw_okq q := by
  show ∀ q ∈ lw_privs_1 ++ (lw_privs_2 ++ (lw_privs_3 ++ (lw_privs_4 ++ (lw_privs_5 ++ (lw_privs_6))))), lw_okq q
  exact List.forall_mem_append.mpr ⟨lw_r1, List.forall_mem_append.mpr ⟨lw_r2, List.forall_mem_append.mpr ⟨lw_r3, List.forall_mem_append.mpr ⟨lw_r4, List.forall_mem_append.mpr ⟨lw_r5, lw_r6⟩⟩⟩⟩⟩
end
section
def RX0 : String := "LifeLinks$Entry"
def TX0 : u_T := fun k => match k with
  | 0 => ("LifeLinks$Entry", "slot", "I", true)
  | 1 => ("LifeLinks$Entry", "name", "[I", true)
  | 2 => ("LifeLinks$Entry", "distances", "[I", true)
  | 3 => ("LifeLinks$Entry", "length", "I", false)
  | 4 => ("LifeLinks$Entry", "kind", "I", false)
  | 5 => ("LifeLinks$Entry", "year", "I", false)
  | 6 => ("LifeLinks$Entry", "age", "I", false)
  | 7 => ("LifeLinks$Entry", "partedSlots", "I", false)
  | 8 => ("LifeLinks$Entry", "bornFirst", "I", false)
  | _ => ("LifeLinks$Entry", "bornLast", "I", false)
def tyX0 : Nat → FieldType := fun k => match k with
  | 0 => .int
  | 1 => .array .int
  | 2 => .array .int
  | 3 => .int
  | 4 => .int
  | 5 => .int
  | 6 => .int
  | 7 => .int
  | 8 => .int
  | _ => .int
theorem nmX0 : ∀ a, a < 10 → ∀ b, b < 10 → a ≠ b → (TX0 a).2.1 ≠ (TX0 b).2.1 := by decide +kernel
theorem tyX0_ok : ∀ k, k < 10 → parseFieldDescriptor (TX0 k).2.2.1 = some (tyX0 k) := by decide +kernel
abbrev cX0_init : ByteArray := prog_2_method_1_code
def yX0_init : MethodName := ⟨RX0, "<init>", "(I)V"⟩
abbrev cX0_read : ByteArray := prog_2_method_2_code
def yX0_read : MethodName := ⟨RX0, "read", "(LLifeLinks$Page;LLifeLinks$Reader;)V"⟩
abbrev cX0_settleBorn : ByteArray := prog_2_method_3_code
def yX0_settleBorn : MethodName := ⟨RX0, "settleBorn", "(I)V"⟩
abbrev cX0_isPartedFrom : ByteArray := prog_2_method_4_code
def yX0_isPartedFrom : MethodName := ⟨RX0, "isPartedFrom", "(LLifeLinks$Entry;)Z"⟩
abbrev cX0_distanceTo : ByteArray := prog_2_method_5_code
def yX0_distanceTo : MethodName := ⟨RX0, "distanceTo", "(LLifeLinks$Entry;)I"⟩
abbrev cX0_likenessTo : ByteArray := prog_2_method_6_code
def yX0_likenessTo : MethodName := ⟨RX0, "likenessTo", "(LLifeLinks$Entry;)I"⟩
abbrev cX0_yearsWith : ByteArray := prog_2_method_7_code
def yX0_yearsWith : MethodName := ⟨RX0, "yearsWith", "(LLifeLinks$Entry;)I"⟩
abbrev cX0_isInWrongOrderWith : ByteArray := prog_2_method_8_code
def yX0_isInWrongOrderWith : MethodName := ⟨RX0, "isInWrongOrderWith", "(LLifeLinks$Entry;)Z"⟩
def RX1 : String := "LifeLinks$Life"
def TX1 : u_T := fun k => match k with
  | 0 => ("LifeLinks$Life", "members", "[I", true)
  | 1 => ("LifeLinks$Life", "size", "I", false)
  | 2 => ("LifeLinks$Life", "heads", "I", false)
  | 3 => ("LifeLinks$Life", "birth", "I", false)
  | 4 => ("LifeLinks$Life", "burial", "I", false)
  | 5 => ("LifeLinks$Life", "bornFirst", "I", false)
  | 6 => ("LifeLinks$Life", "bornLast", "I", false)
  | 7 => ("LifeLinks$Life", "lastYear", "I", false)
  | _ => ("LifeLinks$Life", "shaky", "Z", false)
def tyX1 : Nat → FieldType := fun k => match k with
  | 0 => .array .int
  | 1 => .int
  | 2 => .int
  | 3 => .int
  | 4 => .int
  | 5 => .int
  | 6 => .int
  | 7 => .int
  | _ => .boolean
theorem nmX1 : ∀ a, a < 9 → ∀ b, b < 9 → a ≠ b → (TX1 a).2.1 ≠ (TX1 b).2.1 := by decide +kernel
theorem tyX1_ok : ∀ k, k < 9 → parseFieldDescriptor (TX1 k).2.2.1 = some (tyX1 k) := by decide +kernel
abbrev cX1_init : ByteArray := prog_3_method_1_code
def yX1_init : MethodName := ⟨RX1, "<init>", "()V"⟩
abbrev cX1_clear : ByteArray := prog_3_method_2_code
def yX1_clear : MethodName := ⟨RX1, "clear", "()V"⟩
abbrev cX1_weddings : ByteArray := prog_3_method_3_code
def yX1_weddings : MethodName := ⟨RX1, "weddings", "()I"⟩
abbrev cX1_isBorn : ByteArray := prog_3_method_4_code
def yX1_isBorn : MethodName := ⟨RX1, "isBorn", "()Z"⟩
abbrev cX1_add : ByteArray := prog_3_method_5_code
def yX1_add : MethodName := ⟨RX1, "add", "(ILLifeLinks$Entry;)V"⟩
def RX2 : String := "LifeLinks$Lives"
def TX2 : u_T := fun k => match k with
  | 0 => ("LifeLinks$Lives", "all", "[LLifeLinks$Life;", true)
  | 1 => ("LifeLinks$Lives", "lifeOf", "[I", true)
  | 2 => ("LifeLinks$Lives", "size", "I", false)
  | 3 => ("LifeLinks$Lives", "byMatch", "I", false)
  | 4 => ("LifeLinks$Lives", "doubtful", "I", false)
  | _ => ("LifeLinks$Lives", "values", "[I", true)
def tyX2 : Nat → FieldType := fun k => match k with
  | 0 => .array (.object "LifeLinks$Life")
  | 1 => .array .int
  | 2 => .int
  | 3 => .int
  | 4 => .int
  | _ => .array .int
theorem nmX2 : ∀ a, a < 6 → ∀ b, b < 6 → a ≠ b → (TX2 a).2.1 ≠ (TX2 b).2.1 := by decide +kernel
theorem tyX2_ok : ∀ k, k < 6 → parseFieldDescriptor (TX2 k).2.2.1 = some (tyX2 k) := by decide +kernel
abbrev cX2_init : ByteArray := prog_4_method_1_code
def yX2_init : MethodName := ⟨RX2, "<init>", "()V"⟩
abbrev cX2_settle : ByteArray := prog_4_method_2_code
def yX2_settle : MethodName := ⟨RX2, "settle", "(LLifeLinks$Register;LLifeLinks$Pairs;LLifeLinks$Match;I)V"⟩
abbrev cX2_has : ByteArray := prog_4_method_3_code
def yX2_has : MethodName := ⟨RX2, "has", "(I)Z"⟩
abbrev cX2_countShaky : ByteArray := prog_4_method_4_code
def yX2_countShaky : MethodName := ⟨RX2, "countShaky", "()I"⟩
abbrev cX2_countSingle : ByteArray := prog_4_method_5_code
def yX2_countSingle : MethodName := ⟨RX2, "countSingle", "()I"⟩
abbrev cX2_openByMatch : ByteArray := prog_4_method_6_code
def yX2_openByMatch : MethodName := ⟨RX2, "openByMatch", "(LLifeLinks$Register;LLifeLinks$Match;)V"⟩
abbrev cX2_open : ByteArray := prog_4_method_7_code
def yX2_open : MethodName := ⟨RX2, "open", "()I"⟩
abbrev cX2_add : ByteArray := prog_4_method_8_code
def yX2_add : MethodName := ⟨RX2, "add", "(IILLifeLinks$Register;)V"⟩
abbrev cX2_isShaky : ByteArray := prog_4_method_9_code
def yX2_isShaky : MethodName := ⟨RX2, "isShaky", "(LLifeLinks$Life;LLifeLinks$Register;LLifeLinks$Pairs;I)Z"⟩
abbrev cX2_layWedding : ByteArray := prog_4_method_10_code
def yX2_layWedding : MethodName := ⟨RX2, "layWedding", "(ILLifeLinks$Register;LLifeLinks$Pairs;I)V"⟩
abbrev cX2_valueAt : ByteArray := prog_4_method_11_code
def yX2_valueAt : MethodName := ⟨RX2, "valueAt", "(ILLifeLinks$Life;LLifeLinks$Pairs;)I"⟩
abbrev cX2_hasRival : ByteArray := prog_4_method_12_code
def yX2_hasRival : MethodName := ⟨RX2, "hasRival", "(II)Z"⟩
def RX3 : String := "LifeLinks$Match"
def TX3 : u_T := fun k => match k with
  | 0 => ("LifeLinks$Match", "mates", "[I", true)
  | 1 => ("LifeLinks$Match", "pairs", "I", false)
  | 2 => ("LifeLinks$Match", "worth", "I", false)
  | 3 => ("LifeLinks$Match", "births", "[I", true)
  | 4 => ("LifeLinks$Match", "burials", "[I", true)
  | 5 => ("LifeLinks$Match", "birthCount", "I", false)
  | 6 => ("LifeLinks$Match", "burialCount", "I", false)
  | _ => ("LifeLinks$Match", "best", "[[I", true)
def tyX3 : Nat → FieldType := fun k => match k with
  | 0 => .array .int
  | 1 => .int
  | 2 => .int
  | 3 => .array .int
  | 4 => .array .int
  | 5 => .int
  | 6 => .int
  | _ => .array (.array .int)
theorem nmX3 : ∀ a, a < 8 → ∀ b, b < 8 → a ≠ b → (TX3 a).2.1 ≠ (TX3 b).2.1 := by decide +kernel
theorem tyX3_ok : ∀ k, k < 8 → parseFieldDescriptor (TX3 k).2.2.1 = some (tyX3 k) := by decide +kernel
abbrev cX3_init : ByteArray := prog_5_method_1_code
def yX3_init : MethodName := ⟨RX3, "<init>", "()V"⟩
abbrev cX3_settle : ByteArray := prog_5_method_2_code
def yX3_settle : MethodName := ⟨RX3, "settle", "(LLifeLinks$Register;LLifeLinks$Pairs;)V"⟩
abbrev cX3_list : ByteArray := prog_5_method_3_code
def yX3_list : MethodName := ⟨RX3, "list", "(LLifeLinks$Register;)V"⟩
abbrev cX3_bestFrom : ByteArray := prog_5_method_4_code
def yX3_bestFrom : MethodName := ⟨RX3, "bestFrom", "(IILLifeLinks$Pairs;)I"⟩
abbrev cX3_isFree : ByteArray := prog_5_method_5_code
def yX3_isFree : MethodName := ⟨RX3, "isFree", "(IIILLifeLinks$Pairs;)Z"⟩
abbrev cX3_worthWith : ByteArray := prog_5_method_6_code
def yX3_worthWith : MethodName := ⟨RX3, "worthWith", "(IIILLifeLinks$Pairs;)I"⟩
abbrev cX3_choose : ByteArray := prog_5_method_7_code
def yX3_choose : MethodName := ⟨RX3, "choose", "(LLifeLinks$Pairs;)V"⟩
def RX4 : String := "LifeLinks$Names"
def TX4 : u_T := fun k => match k with
  | 0 => ("LifeLinks$Names", "above", "[I", false)
  | _ => ("LifeLinks$Names", "row", "[I", false)
def tyX4 : Nat → FieldType := fun k => match k with
  | 0 => .array .int
  | _ => .array .int
theorem nmX4 : ∀ a, a < 2 → ∀ b, b < 2 → a ≠ b → (TX4 a).2.1 ≠ (TX4 b).2.1 := by decide +kernel
theorem tyX4_ok : ∀ k, k < 2 → parseFieldDescriptor (TX4 k).2.2.1 = some (tyX4 k) := by decide +kernel
abbrev cX4_init : ByteArray := prog_6_method_1_code
def yX4_init : MethodName := ⟨RX4, "<init>", "()V"⟩
abbrev cX4_distance : ByteArray := prog_6_method_2_code
def yX4_distance : MethodName := ⟨RX4, "distance", "(LLifeLinks$Entry;LLifeLinks$Entry;)I"⟩
abbrev cX4_costOfMaking : ByteArray := prog_6_method_3_code
def yX4_costOfMaking : MethodName := ⟨RX4, "costOfMaking", "(II)I"⟩
abbrev cX4_soundOf : ByteArray := prog_6_method_4_code
def yX4_soundOf : MethodName := ⟨RX4, "soundOf", "(I)I"⟩
def RX5 : String := "LifeLinks$Page"
def TX5 : u_T := fun k => match k with
  | 0 => ("LifeLinks$Page", "codes", "[I", true)
  | _ => ("LifeLinks$Page", "size", "I", false)
def tyX5 : Nat → FieldType := fun k => match k with
  | 0 => .array .int
  | _ => .int
theorem nmX5 : ∀ a, a < 2 → ∀ b, b < 2 → a ≠ b → (TX5 a).2.1 ≠ (TX5 b).2.1 := by decide +kernel
theorem tyX5_ok : ∀ k, k < 2 → parseFieldDescriptor (TX5 k).2.2.1 = some (tyX5 k) := by decide +kernel
abbrev cX5_init : ByteArray := prog_7_method_1_code
def yX5_init : MethodName := ⟨RX5, "<init>", "()V"⟩
abbrev cX5_put : ByteArray := prog_7_method_2_code
def yX5_put : MethodName := ⟨RX5, "put", "(I)V"⟩
def RX6 : String := "LifeLinks$Pairs"
def TX6 : u_T := fun k => match k with
  | 0 => ("LifeLinks$Pairs", "why", "[[I", true)
  | 1 => ("LifeLinks$Pairs", "worth", "[[I", true)
  | _ => ("LifeLinks$Pairs", "size", "I", false)
def tyX6 : Nat → FieldType := fun k => match k with
  | 0 => .array (.array .int)
  | 1 => .array (.array .int)
  | _ => .int
theorem nmX6 : ∀ a, a < 3 → ∀ b, b < 3 → a ≠ b → (TX6 a).2.1 ≠ (TX6 b).2.1 := by decide +kernel
theorem tyX6_ok : ∀ k, k < 3 → parseFieldDescriptor (TX6 k).2.2.1 = some (tyX6 k) := by decide +kernel
abbrev cX6_init : ByteArray := prog_8_method_1_code
def yX6_init : MethodName := ⟨RX6, "<init>", "()V"⟩
abbrev cX6_settle : ByteArray := prog_8_method_2_code
def yX6_settle : MethodName := ⟨RX6, "settle", "(LLifeLinks$Register;I)V"⟩
abbrev cX6_fit : ByteArray := prog_8_method_3_code
def yX6_fit : MethodName := ⟨RX6, "fit", "(II)Z"⟩
abbrev cX6_countFitting : ByteArray := prog_8_method_4_code
def yX6_countFitting : MethodName := ⟨RX6, "countFitting", "(I)I"⟩
abbrev cX6_bestFor : ByteArray := prog_8_method_5_code
def yX6_bestFor : MethodName := ⟨RX6, "bestFor", "(I)I"⟩
abbrev cX6_fitFirst : ByteArray := prog_8_method_6_code
def yX6_fitFirst : MethodName := ⟨RX6, "fitFirst", "(I[II)Z"⟩
abbrev cX6_meanWorth : ByteArray := prog_8_method_7_code
def yX6_meanWorth : MethodName := ⟨RX6, "meanWorth", "(I[II)I"⟩
abbrev cX6_settleTwo : ByteArray := prog_8_method_8_code
def yX6_settleTwo : MethodName := ⟨RX6, "settleTwo", "(LLifeLinks$Register;III)V"⟩
abbrev cX6_whyNot : ByteArray := prog_8_method_9_code
def yX6_whyNot : MethodName := ⟨RX6, "whyNot", "(LLifeLinks$Entry;LLifeLinks$Entry;I)I"⟩
def RX7 : String := "LifeLinks$Reader"
def TX7 : u_T := fun k => match k with
  | 0 => ("LifeLinks$Reader", "ofKind", "[I", true)
  | 1 => ("LifeLinks$Reader", "entries", "I", false)
  | 2 => ("LifeLinks$Reader", "kind", "I", false)
  | 3 => ("LifeLinks$Reader", "nameStart", "I", false)
  | 4 => ("LifeLinks$Reader", "nameLength", "I", false)
  | 5 => ("LifeLinks$Reader", "year", "I", false)
  | 6 => ("LifeLinks$Reader", "age", "I", false)
  | 7 => ("LifeLinks$Reader", "state", "I", false)
  | 8 => ("LifeLinks$Reader", "taken", "I", false)
  | _ => ("LifeLinks$Reader", "figures", "I", false)
def tyX7 : Nat → FieldType := fun k => match k with
  | 0 => .array .int
  | 1 => .int
  | 2 => .int
  | 3 => .int
  | 4 => .int
  | 5 => .int
  | 6 => .int
  | 7 => .int
  | 8 => .int
  | _ => .int
theorem nmX7 : ∀ a, a < 10 → ∀ b, b < 10 → a ≠ b → (TX7 a).2.1 ≠ (TX7 b).2.1 := by decide +kernel
theorem tyX7_ok : ∀ k, k < 10 → parseFieldDescriptor (TX7 k).2.2.1 = some (tyX7 k) := by decide +kernel
abbrev cX7_init : ByteArray := prog_9_method_1_code
def yX7_init : MethodName := ⟨RX7, "<init>", "()V"⟩
abbrev cX7_start : ByteArray := prog_9_method_2_code
def yX7_start : MethodName := ⟨RX7, "start", "()V"⟩
abbrev cX7_takes : ByteArray := prog_9_method_3_code
def yX7_takes : MethodName := ⟨RX7, "takes", "(I)Z"⟩
abbrev cX7_isWhole : ByteArray := prog_9_method_4_code
def yX7_isWhole : MethodName := ⟨RX7, "isWhole", "()Z"⟩
abbrev cX7_startEntry : ByteArray := prog_9_method_5_code
def yX7_startEntry : MethodName := ⟨RX7, "startEntry", "()V"⟩
abbrev cX7_takesKind : ByteArray := prog_9_method_6_code
def yX7_takesKind : MethodName := ⟨RX7, "takesKind", "(I)Z"⟩
abbrev cX7_takesInName : ByteArray := prog_9_method_7_code
def yX7_takesInName : MethodName := ⟨RX7, "takesInName", "(I)Z"⟩
abbrev cX7_takesFigureOfYear : ByteArray := prog_9_method_8_code
def yX7_takesFigureOfYear : MethodName := ⟨RX7, "takesFigureOfYear", "(I)Z"⟩
abbrev cX7_takesBehindYear : ByteArray := prog_9_method_9_code
def yX7_takesBehindYear : MethodName := ⟨RX7, "takesBehindYear", "(I)Z"⟩
abbrev cX7_takesInAge : ByteArray := prog_9_method_10_code
def yX7_takesInAge : MethodName := ⟨RX7, "takesInAge", "(I)Z"⟩
abbrev cX7_ageGoesOnWith : ByteArray := prog_9_method_11_code
def yX7_ageGoesOnWith : MethodName := ⟨RX7, "ageGoesOnWith", "(I)Z"⟩
abbrev cX7_ageIsWhole : ByteArray := prog_9_method_12_code
def yX7_ageIsWhole : MethodName := ⟨RX7, "ageIsWhole", "()Z"⟩
def RX8 : String := "LifeLinks$Register"
def TX8 : u_T := fun k => match k with
  | 0 => ("LifeLinks$Register", "rows", "[LLifeLinks$Entry;", true)
  | 1 => ("LifeLinks$Register", "ofKind", "[I", true)
  | 2 => ("LifeLinks$Register", "size", "I", false)
  | _ => ("LifeLinks$Register", "struck", "I", false)
def tyX8 : Nat → FieldType := fun k => match k with
  | 0 => .array (.object "LifeLinks$Entry")
  | 1 => .array .int
  | 2 => .int
  | _ => .int
theorem nmX8 : ∀ a, a < 4 → ∀ b, b < 4 → a ≠ b → (TX8 a).2.1 ≠ (TX8 b).2.1 := by decide +kernel
theorem tyX8_ok : ∀ k, k < 4 → parseFieldDescriptor (TX8 k).2.2.1 = some (tyX8 k) := by decide +kernel
abbrev cX8_init : ByteArray := prog_10_method_1_code
def yX8_init : MethodName := ⟨RX8, "<init>", "()V"⟩
abbrev cX8_has : ByteArray := prog_10_method_2_code
def yX8_has : MethodName := ⟨RX8, "has", "(I)Z"⟩
abbrev cX8_hasRoomFor : ByteArray := prog_10_method_3_code
def yX8_hasRoomFor : MethodName := ⟨RX8, "hasRoomFor", "(LLifeLinks$Reader;)Z"⟩
abbrev cX8_add : ByteArray := prog_10_method_4_code
def yX8_add : MethodName := ⟨RX8, "add", "(LLifeLinks$Page;LLifeLinks$Reader;LLifeLinks$Names;)V"⟩
abbrev cX8_remove : ByteArray := prog_10_method_5_code
def yX8_remove : MethodName := ⟨RX8, "remove", "(I)V"⟩
abbrev cX8_turnParted : ByteArray := prog_10_method_6_code
def yX8_turnParted : MethodName := ⟨RX8, "turnParted", "(LLifeLinks$Entry;LLifeLinks$Entry;)Z"⟩
abbrev cX8_countParted : ByteArray := prog_10_method_7_code
def yX8_countParted : MethodName := ⟨RX8, "countParted", "()I"⟩
abbrev cX8_settleBorn : ByteArray := prog_10_method_8_code
def yX8_settleBorn : MethodName := ⟨RX8, "settleBorn", "(I)V"⟩
def RX9 : String := "LifeLinks"
def TX9 : u_T := fun k => match k with
  | 0 => ("LifeLinks", "page", "LLifeLinks$Page;", true)
  | 1 => ("LifeLinks", "reader", "LLifeLinks$Reader;", true)
  | 2 => ("LifeLinks", "names", "LLifeLinks$Names;", true)
  | 3 => ("LifeLinks", "register", "LLifeLinks$Register;", true)
  | 4 => ("LifeLinks", "pairs", "LLifeLinks$Pairs;", true)
  | 5 => ("LifeLinks", "match", "LLifeLinks$Match;", true)
  | 6 => ("LifeLinks", "lives", "LLifeLinks$Lives;", true)
  | 7 => ("LifeLinks", "least", "I", false)
  | 8 => ("LifeLinks", "slack", "I", false)
  | 9 => ("LifeLinks", "doubt", "I", false)
  | 10 => ("LifeLinks", "textsRead", "I", false)
  | _ => ("LifeLinks", "stale", "Z", false)
def tyX9 : Nat → FieldType := fun k => match k with
  | 0 => .object "LifeLinks$Page"
  | 1 => .object "LifeLinks$Reader"
  | 2 => .object "LifeLinks$Names"
  | 3 => .object "LifeLinks$Register"
  | 4 => .object "LifeLinks$Pairs"
  | 5 => .object "LifeLinks$Match"
  | 6 => .object "LifeLinks$Lives"
  | 7 => .int
  | 8 => .int
  | 9 => .int
  | 10 => .int
  | _ => .boolean
theorem nmX9 : ∀ a, a < 12 → ∀ b, b < 12 → a ≠ b → (TX9 a).2.1 ≠ (TX9 b).2.1 := by decide +kernel
theorem tyX9_ok : ∀ k, k < 12 → parseFieldDescriptor (TX9 k).2.2.1 = some (tyX9 k) := by decide +kernel
abbrev cX9_init : ByteArray := prog_1_method_1_code
def yX9_init : MethodName := ⟨RX9, "<init>", "()V"⟩
abbrev cX9_letter : ByteArray := prog_1_method_2_code
def yX9_letter : MethodName := ⟨RX9, "letter", "(I)I"⟩
abbrev cX9_blank : ByteArray := prog_1_method_3_code
def yX9_blank : MethodName := ⟨RX9, "blank", "()I"⟩
abbrev cX9_fault : ByteArray := prog_1_method_4_code
def yX9_fault : MethodName := ⟨RX9, "fault", "()I"⟩
abbrev cX9_enter : ByteArray := prog_1_method_5_code
def yX9_enter : MethodName := ⟨RX9, "enter", "()I"⟩
abbrev cX9_entry : ByteArray := prog_1_method_6_code
def yX9_entry : MethodName := ⟨RX9, "entry", "(II)I"⟩
abbrev cX9_sign : ByteArray := prog_1_method_7_code
def yX9_sign : MethodName := ⟨RX9, "sign", "(II)I"⟩
abbrev cX9_as : ByteArray := prog_1_method_8_code
def yX9_as : MethodName := ⟨RX9, "as", "(II)I"⟩
abbrev cX9_strike : ByteArray := prog_1_method_9_code
def yX9_strike : MethodName := ⟨RX9, "strike", "(I)I"⟩
abbrev cX9_age : ByteArray := prog_1_method_10_code
def yX9_age : MethodName := ⟨RX9, "age", "(II)I"⟩
abbrev cX9_part : ByteArray := prog_1_method_11_code
def yX9_part : MethodName := ⟨RX9, "part", "(II)I"⟩
abbrev cX9_bound : ByteArray := prog_1_method_12_code
def yX9_bound : MethodName := ⟨RX9, "bound", "(II)I"⟩
abbrev cX9_two : ByteArray := prog_1_method_13_code
def yX9_two : MethodName := ⟨RX9, "two", "(III)I"⟩
abbrev cX9_fits : ByteArray := prog_1_method_14_code
def yX9_fits : MethodName := ⟨RX9, "fits", "(I)I"⟩
abbrev cX9_nearest : ByteArray := prog_1_method_15_code
def yX9_nearest : MethodName := ⟨RX9, "nearest", "(I)I"⟩
abbrev cX9_lives : ByteArray := prog_1_method_16_code
def yX9_lives : MethodName := ⟨RX9, "lives", "(I)I"⟩
abbrev cX9_life : ByteArray := prog_1_method_17_code
def yX9_life : MethodName := ⟨RX9, "life", "(II)I"⟩
abbrev cX9_wedding : ByteArray := prog_1_method_18_code
def yX9_wedding : MethodName := ⟨RX9, "wedding", "(II)I"⟩
abbrev cX9_worth : ByteArray := prog_1_method_19_code
def yX9_worth : MethodName := ⟨RX9, "worth", "(II)I"⟩
abbrev cX9_mate : ByteArray := prog_1_method_20_code
def yX9_mate : MethodName := ⟨RX9, "mate", "(I)I"⟩
abbrev cX9_count : ByteArray := prog_1_method_21_code
def yX9_count : MethodName := ⟨RX9, "count", "(I)I"⟩
abbrev cX9_digest : ByteArray := prog_1_method_22_code
def yX9_digest : MethodName := ⟨RX9, "digest", "()J"⟩
abbrev cX9_leastAge : ByteArray := prog_1_method_23_code
def yX9_leastAge : MethodName := ⟨RX9, "leastAge", "(I)I"⟩
abbrev cX9_mayHaveAge : ByteArray := prog_1_method_24_code
def yX9_mayHaveAge : MethodName := ⟨RX9, "mayHaveAge", "(II)Z"⟩
abbrev cX9_areTwo : ByteArray := prog_1_method_25_code
def yX9_areTwo : MethodName := ⟨RX9, "areTwo", "(II)Z"⟩
abbrev cX9_addEntriesOfPage : ByteArray := prog_1_method_26_code
def yX9_addEntriesOfPage : MethodName := ⟨RX9, "addEntriesOfPage", "()V"⟩
abbrev cX9_settle : ByteArray := prog_1_method_27_code
def yX9_settle : MethodName := ⟨RX9, "settle", "()V"⟩
abbrev cX9_tellEntry : ByteArray := prog_1_method_28_code
def yX9_tellEntry : MethodName := ⟨RX9, "tellEntry", "(II)I"⟩
abbrev cX9_tellTwo : ByteArray := prog_1_method_29_code
def yX9_tellTwo : MethodName := ⟨RX9, "tellTwo", "(III)I"⟩
abbrev cX9_tellLives : ByteArray := prog_1_method_30_code
def yX9_tellLives : MethodName := ⟨RX9, "tellLives", "(I)I"⟩
abbrev cX9_tellLife : ByteArray := prog_1_method_31_code
def yX9_tellLife : MethodName := ⟨RX9, "tellLife", "(LLifeLinks$Life;I)I"⟩
abbrev cX9_mixed : ByteArray := prog_1_method_32_code
def yX9_mixed : MethodName := ⟨RX9, "mixed", "(JJ)J"⟩
abbrev cX9_mixEntries : ByteArray := prog_1_method_33_code
def yX9_mixEntries : MethodName := ⟨RX9, "mixEntries", "(J)J"⟩
abbrev cX9_mixTwos : ByteArray := prog_1_method_34_code
def yX9_mixTwos : MethodName := ⟨RX9, "mixTwos", "(J)J"⟩
abbrev cX9_mixLives : ByteArray := prog_1_method_35_code
def yX9_mixLives : MethodName := ⟨RX9, "mixLives", "(J)J"⟩
def RX10 : String := "LifeLinksModel"
def TX10 : u_T := fun k => match k with
  | 0 => ("LifeLinksModel", "pageLength", "I", false)
  | 1 => ("LifeLinksModel", "page", "[I", true)
  | 2 => ("LifeLinksModel", "entries", "I", false)
  | 3 => ("LifeLinksModel", "kind", "[I", true)
  | 4 => ("LifeLinksModel", "year", "[I", true)
  | 5 => ("LifeLinksModel", "ageOf", "[I", true)
  | 6 => ("LifeLinksModel", "length", "[I", true)
  | 7 => ("LifeLinksModel", "name", "[I", true)
  | 8 => ("LifeLinksModel", "parted", "[I", true)
  | 9 => ("LifeLinksModel", "bounds", "[I", true)
  | 10 => ("LifeLinksModel", "reads", "I", false)
  | 11 => ("LifeLinksModel", "struck", "I", false)
  | 12 => ("LifeLinksModel", "stage", "I", false)
  | 13 => ("LifeLinksModel", "newEntries", "I", false)
  | 14 => ("LifeLinksModel", "newKind", "[I", true)
  | 15 => ("LifeLinksModel", "newYear", "[I", true)
  | 16 => ("LifeLinksModel", "newAge", "[I", true)
  | 17 => ("LifeLinksModel", "newLength", "[I", true)
  | 18 => ("LifeLinksModel", "newName", "[I", true)
  | 19 => ("LifeLinksModel", "cost", "[I", true)
  | 20 => ("LifeLinksModel", "births", "I", false)
  | 21 => ("LifeLinksModel", "burials", "I", false)
  | 22 => ("LifeLinksModel", "birthAt", "[I", true)
  | 23 => ("LifeLinksModel", "burialAt", "[I", true)
  | 24 => ("LifeLinksModel", "best", "[I", true)
  | 25 => ("LifeLinksModel", "mateOf", "[I", true)
  | 26 => ("LifeLinksModel", "pairs", "I", false)
  | 27 => ("LifeLinksModel", "pairsWorth", "I", false)
  | 28 => ("LifeLinksModel", "lives", "I", false)
  | 29 => ("LifeLinksModel", "lifeBirth", "[I", true)
  | 30 => ("LifeLinksModel", "lifeBurial", "[I", true)
  | 31 => ("LifeLinksModel", "lifeWeddings", "[I", true)
  | 32 => ("LifeLinksModel", "lifeOf", "[I", true)
  | _ => ("LifeLinksModel", "h", "J", false)
def tyX10 : Nat → FieldType := fun k => match k with
  | 0 => .int
  | 1 => .array .int
  | 2 => .int
  | 3 => .array .int
  | 4 => .array .int
  | 5 => .array .int
  | 6 => .array .int
  | 7 => .array .int
  | 8 => .array .int
  | 9 => .array .int
  | 10 => .int
  | 11 => .int
  | 12 => .int
  | 13 => .int
  | 14 => .array .int
  | 15 => .array .int
  | 16 => .array .int
  | 17 => .array .int
  | 18 => .array .int
  | 19 => .array .int
  | 20 => .int
  | 21 => .int
  | 22 => .array .int
  | 23 => .array .int
  | 24 => .array .int
  | 25 => .array .int
  | 26 => .int
  | 27 => .int
  | 28 => .int
  | 29 => .array .int
  | 30 => .array .int
  | 31 => .array .int
  | 32 => .array .int
  | _ => .long
theorem nmX10 : ∀ a, a < 34 → ∀ b, b < 34 → a ≠ b → (TX10 a).2.1 ≠ (TX10 b).2.1 := by decide +kernel
theorem tyX10_ok : ∀ k, k < 34 → parseFieldDescriptor (TX10 k).2.2.1 = some (tyX10 k) := by decide +kernel
abbrev cX10_init : ByteArray := prog_12_method_1_code
def yX10_init : MethodName := ⟨RX10, "<init>", "()V"⟩
abbrev cX10_within : ByteArray := prog_12_method_3_code
def yX10_within : MethodName := ⟨RX10, "within", "(III)Z"⟩
abbrev cX10_letter : ByteArray := prog_12_method_4_code
def yX10_letter : MethodName := ⟨RX10, "letter", "(I)I"⟩
abbrev cX10_blank : ByteArray := prog_12_method_5_code
def yX10_blank : MethodName := ⟨RX10, "blank", "()I"⟩
abbrev cX10_goes : ByteArray := prog_12_method_6_code
def yX10_goes : MethodName := ⟨RX10, "goes", "(ZI)Z"⟩
abbrev cX10_takesKind : ByteArray := prog_12_method_7_code
def yX10_takesKind : MethodName := ⟨RX10, "takesKind", "(I)Z"⟩
abbrev cX10_takesName : ByteArray := prog_12_method_8_code
def yX10_takesName : MethodName := ⟨RX10, "takesName", "(II)Z"⟩
abbrev cX10_takesYear : ByteArray := prog_12_method_9_code
def yX10_takesYear : MethodName := ⟨RX10, "takesYear", "(II)Z"⟩
abbrev cX10_takesAge : ByteArray := prog_12_method_10_code
def yX10_takesAge : MethodName := ⟨RX10, "takesAge", "(II)Z"⟩
abbrev cX10_takesEnd : ByteArray := prog_12_method_11_code
def yX10_takesEnd : MethodName := ⟨RX10, "takesEnd", "(II)Z"⟩
abbrev cX10_takes : ByteArray := prog_12_method_12_code
def yX10_takes : MethodName := ⟨RX10, "takes", "(I)Z"⟩
abbrev cX10_read : ByteArray := prog_12_method_13_code
def yX10_read : MethodName := ⟨RX10, "read", "()I"⟩
abbrev cX10_fault : ByteArray := prog_12_method_14_code
def yX10_fault : MethodName := ⟨RX10, "fault", "()I"⟩
abbrev cX10_ofKind : ByteArray := prog_12_method_15_code
def yX10_ofKind : MethodName := ⟨RX10, "ofKind", "(I)I"⟩
abbrev cX10_newOfKind : ByteArray := prog_12_method_16_code
def yX10_newOfKind : MethodName := ⟨RX10, "newOfKind", "(I)I"⟩
abbrev cX10_isRoom : ByteArray := prog_12_method_17_code
def yX10_isRoom : MethodName := ⟨RX10, "isRoom", "()Z"⟩
abbrev cX10_enter : ByteArray := prog_12_method_18_code
def yX10_enter : MethodName := ⟨RX10, "enter", "()I"⟩
abbrev cX10_groupOf : ByteArray := prog_12_method_19_code
def yX10_groupOf : MethodName := ⟨RX10, "groupOf", "(I)I"⟩
abbrev cX10_changeOf : ByteArray := prog_12_method_20_code
def yX10_changeOf : MethodName := ⟨RX10, "changeOf", "(II)I"⟩
abbrev cX10_lesser : ByteArray := prog_12_method_21_code
def yX10_lesser : MethodName := ⟨RX10, "lesser", "(II)I"⟩
abbrev cX10_greater : ByteArray := prog_12_method_22_code
def yX10_greater : MethodName := ⟨RX10, "greater", "(II)I"⟩
abbrev cX10_distance : ByteArray := prog_12_method_23_code
def yX10_distance : MethodName := ⟨RX10, "distance", "(II)I"⟩
abbrev cX10_likeness : ByteArray := prog_12_method_24_code
def yX10_likeness : MethodName := ⟨RX10, "likeness", "(II)I"⟩
abbrev cX10_firstBorn : ByteArray := prog_12_method_25_code
def yX10_firstBorn : MethodName := ⟨RX10, "firstBorn", "(I)I"⟩
abbrev cX10_lastBorn : ByteArray := prog_12_method_26_code
def yX10_lastBorn : MethodName := ⟨RX10, "lastBorn", "(I)I"⟩
abbrev cX10_yearsOf : ByteArray := prog_12_method_27_code
def yX10_yearsOf : MethodName := ⟨RX10, "yearsOf", "(II)I"⟩
abbrev cX10_isParted : ByteArray := prog_12_method_28_code
def yX10_isParted : MethodName := ⟨RX10, "isParted", "(II)Z"⟩
abbrev cX10_isOutOfOrder : ByteArray := prog_12_method_29_code
def yX10_isOutOfOrder : MethodName := ⟨RX10, "isOutOfOrder", "(II)Z"⟩
abbrev cX10_why : ByteArray := prog_12_method_30_code
def yX10_why : MethodName := ⟨RX10, "why", "(II)I"⟩
abbrev cX10_isFit : ByteArray := prog_12_method_31_code
def yX10_isFit : MethodName := ⟨RX10, "isFit", "(II)Z"⟩
abbrev cX10_worthOf : ByteArray := prog_12_method_32_code
def yX10_worthOf : MethodName := ⟨RX10, "worthOf", "(II)I"⟩
abbrev cX10_isEntry : ByteArray := prog_12_method_33_code
def yX10_isEntry : MethodName := ⟨RX10, "isEntry", "(I)Z"⟩
abbrev cX10_twoNow : ByteArray := prog_12_method_34_code
def yX10_twoNow : MethodName := ⟨RX10, "twoNow", "(III)I"⟩
abbrev cX10_two : ByteArray := prog_12_method_35_code
def yX10_two : MethodName := ⟨RX10, "two", "(III)I"⟩
abbrev cX10_fitsNow : ByteArray := prog_12_method_36_code
def yX10_fitsNow : MethodName := ⟨RX10, "fitsNow", "(I)I"⟩
abbrev cX10_fits : ByteArray := prog_12_method_37_code
def yX10_fits : MethodName := ⟨RX10, "fits", "(I)I"⟩
abbrev cX10_nearestNow : ByteArray := prog_12_method_38_code
def yX10_nearestNow : MethodName := ⟨RX10, "nearestNow", "(I)I"⟩
abbrev cX10_nearest : ByteArray := prog_12_method_39_code
def yX10_nearest : MethodName := ⟨RX10, "nearest", "(I)I"⟩
abbrev cX10_listKinds : ByteArray := prog_12_method_40_code
def yX10_listKinds : MethodName := ⟨RX10, "listKinds", "()V"⟩
abbrev cX10_bestWith : ByteArray := prog_12_method_41_code
def yX10_bestWith : MethodName := ⟨RX10, "bestWith", "(III)I"⟩
abbrev cX10_layBest : ByteArray := prog_12_method_42_code
def yX10_layBest : MethodName := ⟨RX10, "layBest", "()V"⟩
abbrev cX10_layPairs : ByteArray := prog_12_method_43_code
def yX10_layPairs : MethodName := ⟨RX10, "layPairs", "()V"⟩
abbrev cX10_beginLife : ByteArray := prog_12_method_44_code
def yX10_beginLife : MethodName := ⟨RX10, "beginLife", "(II)V"⟩
abbrev cX10_layFirstLives : ByteArray := prog_12_method_45_code
def yX10_layFirstLives : MethodName := ⟨RX10, "layFirstLives", "()V"⟩
abbrev cX10_isOf : ByteArray := prog_12_method_46_code
def yX10_isOf : MethodName := ⟨RX10, "isOf", "(II)Z"⟩
abbrev cX10_canGo : ByteArray := prog_12_method_47_code
def yX10_canGo : MethodName := ⟨RX10, "canGo", "(II)Z"⟩
abbrev cX10_worthAt : ByteArray := prog_12_method_48_code
def yX10_worthAt : MethodName := ⟨RX10, "worthAt", "(II)I"⟩
abbrev cX10_bestLife : ByteArray := prog_12_method_49_code
def yX10_bestLife : MethodName := ⟨RX10, "bestLife", "(I)I"⟩
abbrev cX10_isInDoubt : ByteArray := prog_12_method_50_code
def yX10_isInDoubt : MethodName := ⟨RX10, "isInDoubt", "(II)Z"⟩
abbrev cX10_layLives : ByteArray := prog_12_method_51_code
def yX10_layLives : MethodName := ⟨RX10, "layLives", "()V"⟩
abbrev cX10_layWedding : ByteArray := prog_12_method_52_code
def yX10_layWedding : MethodName := ⟨RX10, "layWedding", "(I)V"⟩
abbrev cX10_isShaky : ByteArray := prog_12_method_53_code
def yX10_isShaky : MethodName := ⟨RX10, "isShaky", "(I)Z"⟩
abbrev cX10_entriesOf : ByteArray := prog_12_method_54_code
def yX10_entriesOf : MethodName := ⟨RX10, "entriesOf", "(I)I"⟩
abbrev cX10_doubtful : ByteArray := prog_12_method_55_code
def yX10_doubtful : MethodName := ⟨RX10, "doubtful", "()I"⟩
abbrev cX10_shakyMany : ByteArray := prog_12_method_56_code
def yX10_shakyMany : MethodName := ⟨RX10, "shakyMany", "()I"⟩
abbrev cX10_onlyMany : ByteArray := prog_12_method_57_code
def yX10_onlyMany : MethodName := ⟨RX10, "onlyMany", "()I"⟩
abbrev cX10_livesNow : ByteArray := prog_12_method_58_code
def yX10_livesNow : MethodName := ⟨RX10, "livesNow", "(I)I"⟩
abbrev cX10_lives : ByteArray := prog_12_method_59_code
def yX10_lives : MethodName := ⟨RX10, "lives", "(I)I"⟩
abbrev cX10_bornOf : ByteArray := prog_12_method_60_code
def yX10_bornOf : MethodName := ⟨RX10, "bornOf", "(IZ)I"⟩
abbrev cX10_lastYear : ByteArray := prog_12_method_61_code
def yX10_lastYear : MethodName := ⟨RX10, "lastYear", "(I)I"⟩
abbrev cX10_lifeNow : ByteArray := prog_12_method_62_code
def yX10_lifeNow : MethodName := ⟨RX10, "lifeNow", "(II)I"⟩
abbrev cX10_life : ByteArray := prog_12_method_63_code
def yX10_life : MethodName := ⟨RX10, "life", "(II)I"⟩
abbrev cX10_weddingAt : ByteArray := prog_12_method_64_code
def yX10_weddingAt : MethodName := ⟨RX10, "weddingAt", "(II)I"⟩
abbrev cX10_wedding : ByteArray := prog_12_method_65_code
def yX10_wedding : MethodName := ⟨RX10, "wedding", "(II)I"⟩
abbrev cX10_worth : ByteArray := prog_12_method_66_code
def yX10_worth : MethodName := ⟨RX10, "worth", "(II)I"⟩
abbrev cX10_mate : ByteArray := prog_12_method_67_code
def yX10_mate : MethodName := ⟨RX10, "mate", "(I)I"⟩
abbrev cX10_entryNow : ByteArray := prog_12_method_68_code
def yX10_entryNow : MethodName := ⟨RX10, "entryNow", "(II)I"⟩
abbrev cX10_entryTold : ByteArray := prog_12_method_69_code
def yX10_entryTold : MethodName := ⟨RX10, "entryTold", "(II)I"⟩
abbrev cX10_entry : ByteArray := prog_12_method_70_code
def yX10_entry : MethodName := ⟨RX10, "entry", "(II)I"⟩
abbrev cX10_sign : ByteArray := prog_12_method_71_code
def yX10_sign : MethodName := ⟨RX10, "sign", "(II)I"⟩
abbrev cX10_as : ByteArray := prog_12_method_72_code
def yX10_as : MethodName := ⟨RX10, "as", "(II)I"⟩
abbrev cX10_without : ByteArray := prog_12_method_73_code
def yX10_without : MethodName := ⟨RX10, "without", "(II)I"⟩
abbrev cX10_strike : ByteArray := prog_12_method_74_code
def yX10_strike : MethodName := ⟨RX10, "strike", "(I)I"⟩
abbrev cX10_isAge : ByteArray := prog_12_method_75_code
def yX10_isAge : MethodName := ⟨RX10, "isAge", "(II)Z"⟩
abbrev cX10_age : ByteArray := prog_12_method_76_code
def yX10_age : MethodName := ⟨RX10, "age", "(II)I"⟩
abbrev cX10_part : ByteArray := prog_12_method_77_code
def yX10_part : MethodName := ⟨RX10, "part", "(II)I"⟩
abbrev cX10_bound : ByteArray := prog_12_method_78_code
def yX10_bound : MethodName := ⟨RX10, "bound", "(II)I"⟩
abbrev cX10_partedMany : ByteArray := prog_12_method_79_code
def yX10_partedMany : MethodName := ⟨RX10, "partedMany", "()I"⟩
abbrev cX10_howMany : ByteArray := prog_12_method_80_code
def yX10_howMany : MethodName := ⟨RX10, "howMany", "(I)I"⟩
abbrev cX10_count : ByteArray := prog_12_method_81_code
def yX10_count : MethodName := ⟨RX10, "count", "(I)I"⟩
abbrev cX10_mix : ByteArray := prog_12_method_82_code
def yX10_mix : MethodName := ⟨RX10, "mix", "(J)V"⟩
abbrev cX10_mixEntries : ByteArray := prog_12_method_83_code
def yX10_mixEntries : MethodName := ⟨RX10, "mixEntries", "()V"⟩
abbrev cX10_mixLives : ByteArray := prog_12_method_84_code
def yX10_mixLives : MethodName := ⟨RX10, "mixLives", "()V"⟩
abbrev cX10_digest : ByteArray := prog_12_method_85_code
def yX10_digest : MethodName := ⟨RX10, "digest", "()J"⟩
def RJ6 : String := "java/lang/Integer"
abbrev cJ6_bitCount_0f7a4 : ByteArray := prog_13_method_49_code
def yJ6_bitCount_0f7a4 : MethodName := ⟨RJ6, "bitCount", "(I)I"⟩
def RJ9 : String := "java/lang/Math"
abbrev cJ9_max_7cf53 : ByteArray := prog_14_method_65_code
def yJ9_max_7cf53 : MethodName := ⟨RJ9, "max", "(II)I"⟩
abbrev cJ9_min_7cf53 : ByteArray := prog_14_method_69_code
def yJ9_min_7cf53 : MethodName := ⟨RJ9, "min", "(II)I"⟩
def RJ0 : String := "java/lang/String"
abbrev cJ0_length_8abf5 : ByteArray := prog_15_method_54_code
def yJ0_length_8abf5 : MethodName := ⟨RJ0, "length", "()I"⟩
abbrev cJ0_charAt_5068e : ByteArray := prog_15_method_56_code
def yJ0_charAt_5068e : MethodName := ⟨RJ0, "charAt", "(I)C"⟩
abbrev cJ0_coder_7d493 : ByteArray := prog_15_method_152_code
def yJ0_coder_7d493 : MethodName := ⟨RJ0, "coder", "()B"⟩
abbrev cJ0_isLatin1_aae02 : ByteArray := prog_15_method_154_code
def yJ0_isLatin1_aae02 : MethodName := ⟨RJ0, "isLatin1", "()Z"⟩
abbrev cJ0_checkIndex_df160 : ByteArray := prog_15_method_155_code
def yJ0_checkIndex_df160 : MethodName := ⟨RJ0, "checkIndex", "(II)V"⟩
def RJ1 : String := "java/lang/StringLatin1"
abbrev cJ1_charAt_3b067 : ByteArray := prog_16_method_2_code
def yJ1_charAt_3b067 : MethodName := ⟨RJ1, "charAt", "([BI)C"⟩
def RJ2 : String := "java/lang/StringUTF16"
abbrev cJ2_getChar_3b067 : ByteArray := prog_17_method_5_code
def yJ2_getChar_3b067 : MethodName := ⟨RJ2, "getChar", "([BI)C"⟩
abbrev cJ2_length_9d52b : ByteArray := prog_17_method_6_code
def yJ2_length_9d52b : MethodName := ⟨RJ2, "length", "([B)I"⟩
abbrev cJ2_charAt_3b067 : ByteArray := prog_17_method_83_code
def yJ2_charAt_3b067 : MethodName := ⟨RJ2, "charAt", "([BI)C"⟩
abbrev cJ2_checkIndex_2214a : ByteArray := prog_17_method_91_code
def yJ2_checkIndex_2214a : MethodName := ⟨RJ2, "checkIndex", "(I[B)V"⟩
def RJ3 : String := "jdk/internal/util/Preconditions"
abbrev cJ3_checkIndex_8e157 : ByteArray := prog_18_method_11_code
def yJ3_checkIndex_8e157 : MethodName := ⟨RJ3, "checkIndex", "(IILjava/util/function/BiFunction;)I"⟩
def RL : String := "LifeLinksLaw"
abbrev cL_law : ByteArray := code
def yL_law : MethodName := ⟨RL, "law", "([I)Z"⟩
abbrev vwCl : List vw_C := [(RX0, TX0, 10), (RX1, TX1, 9), (RX2, TX2, 6), (RX3, TX3, 8), (RX4, TX4, 2), (RX5, TX5, 2), (RX6, TX6, 3), (RX7, TX7, 10), (RX8, TX8, 4), (RX9, TX9, 12), (RX10, TX10, 34)]
/-- the words that every method may use: those of the tables that stay -/
def WS : List Cond := lw_tbl.filter goodWord
theorem WS_tbl {w : Cond} (h : w ∈ WS) : w ∈ lw_tbl := (List.mem_filter.mp h).1
theorem WS_good {w : Cond} (h : w ∈ WS) : goodWord w = true := (List.mem_filter.mp h).2
theorem wd {w : Cond} (i : Nat) (h : lw_tbl[i]? = some w) (g : goodWord w = true) : w ∈ WS := List.mem_filter.mpr ⟨List.mem_of_getElem? h, g⟩
theorem wdl {l : List Cond} (ps : List Nat) (h : l = ps.filterMap (fun i => lw_tbl[i]?)) (g : l.all goodWord = true) : ∀ w ∈ l, w ∈ WS := by
  intro w hw
  have h2 := List.all_eq_true.mp g w hw
  rw [h] at hw
  obtain ⟨i, -, hi⟩ := List.mem_filterMap.mp hw
  exact wd i hi h2
theorem inX0 : ∀ w ∈ u_ws RX0 TX0 10, w ∈ WS := wdl [229, 231, 233, 235, 237, 239, 241, 243, 245, 247] (by decide +kernel) (by decide +kernel)
theorem inX1 : ∀ w ∈ u_ws RX1 TX1 9, w ∈ WS := wdl [368, 370, 372, 374, 376, 378, 380, 382, 384] (by decide +kernel) (by decide +kernel)
theorem inX2 : ∀ w ∈ u_ws RX2 TX2 6, w ∈ WS := wdl [398, 400, 402, 404, 406, 408] (by decide +kernel) (by decide +kernel)
theorem inX3 : ∀ w ∈ u_ws RX3 TX3 8, w ∈ WS := wdl [314, 316, 318, 320, 322, 324, 326, 328] (by decide +kernel) (by decide +kernel)
theorem inX4 : ∀ w ∈ u_ws RX4 TX4 2, w ∈ WS := wdl [181, 183] (by decide +kernel) (by decide +kernel)
theorem inX5 : ∀ w ∈ u_ws RX5 TX5 2, w ∈ WS := wdl [122, 124] (by decide +kernel) (by decide +kernel)
theorem inX6 : ∀ w ∈ u_ws RX6 TX6 3, w ∈ WS := wdl [288, 290, 292] (by decide +kernel) (by decide +kernel)
theorem inX7 : ∀ w ∈ u_ws RX7 TX7 10, w ∈ WS := wdl [152, 154, 156, 158, 160, 162, 164, 166, 168, 170] (by decide +kernel) (by decide +kernel)
theorem inX8 : ∀ w ∈ u_ws RX8 TX8 4, w ∈ WS := wdl [264, 266, 268, 270] (by decide +kernel) (by decide +kernel)
theorem inX9 : ∀ w ∈ u_ws RX9 TX9 12, w ∈ WS := wdl [423, 425, 427, 429, 431, 433, 435, 437, 439, 441, 443, 445] (by decide +kernel) (by decide +kernel)
theorem inX10 : ∀ w ∈ u_ws RX10 TX10 34, w ∈ WS := wdl [929, 931, 933, 935, 937, 939, 941, 943, 945, 947, 949, 951, 953, 955, 957, 959, 961, 963, 965, 967, 969, 971, 973, 975, 977, 979, 981, 983, 985, 987, 989, 991, 993, 995] (by decide +kernel) (by decide +kernel)
end
section
/-! THE PURE MACHINE. Values are integers (as they are before they wrap) or places of objects; the heap is a list of kinds and two functions; EX says that the machine, at this place of this method, comes to the method's end with an answer and a heap of which Q holds. -/
abbrev PV : Type := Int ⊕ (Int ⊕ Option Nat)
abbrev vi (x : Int) : PV := Sum.inl x
abbrev vl (x : Int) : PV := Sum.inr (Sum.inl x)
abbrev vq (r : Option Nat) : PV := Sum.inr (Sum.inr r)
abbrev vr (a : Nat) : PV := Sum.inr (Sum.inr (some a))
def px_tr (ad : Nat → Nat) (v : PV) : Value := match v with
  | .inl x => .int (Int32.ofInt x)
  | .inr (.inl x) => .long (Int64.ofInt x)
  | .inr (.inr r) => va_rf (r.map ad)
abbrev PH : Type := List (Nat × Nat) × (Nat → Nat → Int) × (Nat → Nat → Option Nat)
def px_ty (c k : Nat) : FieldType := match c with
  | 0 => tyX0 k
  | 1 => tyX1 k
  | 2 => tyX2 k
  | 3 => tyX3 k
  | 4 => tyX4 k
  | 5 => tyX5 k
  | 6 => tyX6 k
  | 7 => tyX7 k
  | 8 => tyX8 k
  | 9 => tyX9 k
  | _ => tyX10 k
def px_V (ty : FieldType) (ad : Nat → Nat) (x : Int) (r : Option Nat) : Value := match ty with
  | .long => .long (Int64.ofInt x)
  | .object _ => va_rf (r.map ad)
  | .array _ => va_rf (r.map ad)
  | _ => .int (Int32.ofInt x)
def px_tys (cy : Nat → ClassId) : List (ClassId × FieldType) := [(cy 0, .int), (cy 1, .object RX0), (cy 2, .object RX1), (cy 3, .array .int)]
def px_at (D : va_G) (cy : Nat → ClassId) (ad : Nat → Nat) (h : PH) (H : Heap) (i : Nat) : Prop := match h.1[i]? with
  | none => True
  | some (t, n) => if t < 11 then ∃ q : vw_C, vwCl[t]? = some q ∧ t_OB (ad i) (D.1 t) q.2.2 (D.2 t) H (fun k => px_V (px_ty t k) ad (h.2.1 i k) (h.2.2 i k))
    else if t = 20 then H[ad i]? = some (arrV (cy 0) n (fun j => .int (Int32.ofInt (h.2.1 i j))))
    else H[ad i]? = some (arrV (cy (t - 20)) n (fun j => va_rf ((h.2.2 i j).map ad)))
def SIM (D : va_G) (cy : Nat → ClassId) (ad : Nat → Nat) (h : PH) (H : Heap) : Prop := ∀ i, px_at D cy ad h H i
def ADJ (A : Nat → Prop) (ad : Nat → Nat) (n : Nat) : Prop := (∀ i j, i < n → j < n → ad i = ad j → i = j) ∧ ∀ i, i < n → A (ad i)
def px_A (ad : Nat → Nat) (n sz : Nat) : Nat → Prop := fun q => (∃ i, i < n ∧ q = ad i) ∨ sz ≤ q
/-! what holds outside the world: the String constant of Names, two statics, nest mates, arrays' classes -/
def tx40 : String := "abcdafghigclmmabcrsdaffsis"
def by40 : List Int32 := [97, 98, 99, 100, 97, 102, 103, 104, 105, 103, 99, 108, 109, 109, 97, 98, 99, 114, 115, 100, 97, 102, 102, 115, 105, 115]
def STX (A : Nat → Prop) (U : State) (H : Heap) : Prop := ∃ q v : Nat, vk_R "LifeLinks$Names" 40 tx40 q U ∧ vk_S 1 [26] [by40] (fun _ => q) (fun _ => v) A U H
def nestL : List (String × Nat × MethodName) := [(RX9, 9, yX5_init), (RX9, 18, yX7_init), (RX9, 25, yX4_init), (RX9, 39, yX6_init), (RX9, 46, yX3_init), (RX2, 24, yX1_init), (RX7, 73, yX9_mayHaveAge), (RX7, 69, yX9_leastAge)]
def aoa (U : State) : Prop := (Cond.arrayOver (.array .int)).before #[] U = true
theorem aoa.moved {u U : State} (hvm : u.vm.Alike U.vm) (h : aoa u) : aoa U := by
  obtain ⟨comp, c, k, h1, h2, h3, h4, h5⟩ := arrayOverA_spec h
  obtain ⟨k', hk', he⟩ := hvm.2.2 _ _ h3
  have hi : (U.vm.classes.findIdx? fun (x : Class) => match x.kind with | .array component _ => component == comp | _ => false) = some c := by
    have e1 := va_idx_bare U.vm comp
    have e2 := va_idx_bare u.vm comp
    have e3 : U.vm.bare = u.vm.bare := by first | exact hvm.bare_eq | exact hvm.bare_eq.symm
    rw [e3] at e1
    exact (e1.symm.trans e2).trans h2
  have hkind : k'.kind = .array comp (.array .int) := by rw [he]; exact h4
  have f1 : U.vm.findClass (FieldType.array .int).toString = some comp := by rw [hvm.findClass]; exact h1
  have f2 : U.vm.findClass ("[" ++ (FieldType.array .int).toString) = some c := by rw [hvm.findClass]; exact h5
  unfold aoa Cond.before Cond.holds
  simp only [Cond.value]
  rw [f1, Option.bind_some]
  refine (congrArg (fun o : Option Nat => (o.bind (fun c => (U.vm.classes[c]?).map fun (k : Class) => match k.kind with | .array _ ty => decide (ty = FieldType.array .int) && decide (U.vm.findClass ("[" ++ (FieldType.array .int).toString) = some c) | _ => false) == some true)) hi).trans ?_
  simp [hk', hkind, f2]
def GX (A : Nat → Prop) (U : State) (H : Heap) : Prop := STX A U H ∧ va_Z "java/lang/String" "COMPACT_STRINGS" "Z" (.int 1) A U H ∧ va_Zq "jdk/internal/util/Preconditions" "SIOOBE_FORMATTER" "Ljava/util/function/BiFunction;" A U H ∧ va_AO RX0 U ∧ va_AO RX1 U ∧ aoa U ∧ ∀ w ∈ nestL, va_Nw (.methodLinkNest w.1 w.2.1 w.2.2 RX9) U
theorem GX.kept {A : Nat → Prop} {U : State} {H H1 : Heap} (h : GX A U H) (hq : ∀ a : Nat, a < H.size → ¬ A a → H1[a]? = H[a]?) : GX A U H1 := by
  obtain ⟨⟨q, v, h1, h2⟩, h3, h4, h5⟩ := h
  exact ⟨⟨q, v, h1, h2.kept hq⟩, h3.kept hq, h4.kept hq, h5⟩
theorem GX.narrow {A B : Nat → Prop} {U : State} {H : Heap} (h : GX A U H) (hAB : ∀ q, B q → A q) : GX B U H := by
  obtain ⟨⟨q, v, h1, h2⟩, h3, h4, h5⟩ := h
  exact ⟨⟨q, v, h1, h2.narrow hAB⟩, h3.narrow hAB, h4.narrow hAB, h5⟩
theorem GX.warm {A : Nat → Prop} {s U : State} {H : Heap} (hW : s.WarmedH U.vm) (h : GX A s H) : GX A U H := by
  obtain ⟨⟨q, v, h1, h2⟩, h3, h4, h5, h6, h7, h8⟩ := h
  exact ⟨⟨q, v, h1.warm hW, vk_S.moved hW.alike h2⟩, va_Z.moved hW.alike h3, va_Zq.moved hW.alike h4, va_AO.moved hW.alike h5, va_AO.moved hW.alike h6, h7.moved hW.alike, fun w hw => va_Nw.warmM hW (h8 w hw)⟩
theorem GX.same {A : Nat → Prop} {u U : State} {H : Heap} (hv : U.vm = u.vm) (h : GX A u H) : GX A U H := by
  obtain ⟨⟨q, v, h1, h2⟩, h3, h4, h5, h6, h7, h8⟩ := h
  have al : u.vm.Alike U.vm := by rw [hv]; exact Vm.Alike.refl u.vm
  exact ⟨⟨q, v, h1.same hv, vk_S.moved al h2⟩, va_Z.moved al h3, va_Zq.moved al h4, va_AO.moved al h5, va_AO.moved al h6, h7.moved al, fun w hw => va_Nw.same rfl hv.symm (h8 w hw)⟩
abbrev MD : Type := MethodName × ByteArray × Nat × Option FieldType × Nat × Nat
def CX (p : Program) (R : Room) (s : State) (m : MethodId) (args : Array Value) (meth : Method) (c : Code) (M : MD) (D : va_G) (cy : Nat → ClassId) (A : Nat → Prop) : Prop :=
  p.tables.exec = Jvm.exec ∧ c.code = M.2.1 ∧ meth.sig.returnType = M.2.2.2.1 ∧ c.maxLocals = M.2.2.1 ∧ s.vm.findClass M.1.cls = some m.cls ∧ (∀ w ∈ WS, w.before args s = true) ∧ meth.locks = false ∧ va_K D vwCl (px_tys cy) s ∧ R.frames = M.2.2.2.2.1 ∧ R.locals = M.2.2.2.2.2 ∧ meth.name = M.1.name ∧ GX A s s.heap
def PL (ad : Nat → Nat) (nL : Nat) (lsA : Array Slot) (ls : List (Option PV)) : Prop := lsA.size = nL ∧ lv_wf lsA ∧ ∀ (i : Nat) (v : PV), ls[i]? = some (some v) → lsA[i]? = some (.val (px_tr ad v))
def SX (D : va_G) (cy : Nat → ClassId) (ad : Nat → Nat) (h : PH) (s : State) (A : Nat → Prop) (H : Heap) (locs : List Loc) (R : Room) (T0 : List (Nat × Nat)) (cells slots : Nat) (B : Nat × Nat) : Prop :=
  SIM D cy ad h H ∧ ADJ A ad h.1.length ∧ va_S A s.heap H locs ∧ (∀ q, s.heap.size ≤ q → A q) ∧ cells + B.1 = R.cells ∧ slots + B.2 = R.slots ∧ H.size = s.heap.size + cells ∧ (∃ r, h.1 = T0 ++ r ∧ r.length = cells) ∧ ∀ j, j < B.1 → ad (h.1.length + j) = H.size + j
def PQ (D : va_G) (cy : Nat → ClassId) (ad : Nat → Nat) (T0 : List (Nat × Nat)) (A : Nat → Prop) (mc : Nat) (Q : Option PV → PH → Prop) : Array Value → State → Outcome → State → Prop := fun _ st o t =>
  (∃ (v : Option PV) (h : PH), o = .returned (v.map (px_tr ad)) ∧ Q v h ∧ SIM D cy ad h t.heap ∧ ADJ A ad h.1.length ∧ va_K D vwCl (px_tys cy) t ∧ t.heap.size = st.heap.size + mc ∧ ∃ r, h.1 = T0 ++ r ∧ r.length = mc) ∧ va_F A st t
def EX (M : MD) (pc : Nat) (ls : List (Option PV)) (st : List PV) (h : PH) (B : Nat × Nat) (Q : Option PV → PH → Prop) : Prop :=
  ∀ (p : Program) (l : Launch) (e : Env) (R : Room) (s : State) (m : MethodId) (args : Array Value) (below : List Frame) (meth : Method) (c : Code) (D : va_G) (cy : Nat → ClassId) (ad : Nat → Nat) (T0 : List (Nat × Nat)) (A : Nat → Prop) (H : Heap) (locs : List Loc) (cells slots : Nat) (lsA : Array Slot),
    CX p R s m args meth c M D cy A → SX D cy ad h s A H locs R T0 cells slots B → PL ad M.2.2.1 lsA ls →
    W p l e R s m args below meth c H locs cells slots (MQ below (PQ D cy ad T0 A R.cells Q) args s R.cells R.slots A) (F0 m pc lsA (st.map (px_tr ad)))
def MET (M : MD) (av : List PV) (h : PH) (B : Nat × Nat) (Q : Option PV → PH → Prop) : Prop :=
  ∀ (l : Launch) (D : va_G) (cy : Nat → ClassId) (ad : Nat → Nat) (sz : Nat), Met l M.1 (.code M.1 M.2.1 M.2.2.1 M.2.2.2.1 :: WS) ({ frames := M.2.2.2.2.1, cells := B.1, slots := B.2, locals := M.2.2.2.2.2 } : Room)
    (va_Pc (av.map (px_tr ad)) (fun U => U.heap.size = sz ∧ SIM D cy ad h U.heap ∧ va_K D vwCl (px_tys cy) U ∧ GX (px_A ad h.1.length sz) U U.heap ∧ ADJ (fun _ => True) ad h.1.length ∧ ∀ j, j < B.1 → ad (h.1.length + j) = sz + j))
    (PQ D cy ad h.1 (px_A ad h.1.length sz) B.1 Q) B.1 B.2 (px_A ad h.1.length sz)
abbrev METi (M : MD) (av : List PV) (h : PH) (P : Int → PH → Prop) : Prop := MET M av h (0, 0) (fun v h1 => ∃ x, v = some (vi x) ∧ P x h1)
abbrev METl (M : MD) (av : List PV) (h : PH) (P : Int → PH → Prop) : Prop := MET M av h (0, 0) (fun v h1 => ∃ x, v = some (vl x) ∧ P x h1)
abbrev METv (M : MD) (av : List PV) (h : PH) (B : Nat × Nat) (P : PH → Prop) : Prop := MET M av h B (fun v h1 => v = none ∧ P h1)
abbrev EXi (M : MD) (pc : Nat) (ls : List (Option PV)) (st : List PV) (h : PH) (P : Int → PH → Prop) : Prop := EX M pc ls st h (0, 0) (fun v h1 => ∃ x, v = some (vi x) ∧ P x h1)
abbrev EXl (M : MD) (pc : Nat) (ls : List (Option PV)) (st : List PV) (h : PH) (P : Int → PH → Prop) : Prop := EX M pc ls st h (0, 0) (fun v h1 => ∃ x, v = some (vl x) ∧ P x h1)
abbrev EXv (M : MD) (pc : Nat) (ls : List (Option PV)) (st : List PV) (h : PH) (B : Nat × Nat) (P : PH → Prop) : Prop := EX M pc ls st h B (fun v h1 => v = none ∧ P h1)
/-! the pure heap's changes -/
def px_upI (h : PH) (i k : Nat) (x : Int) : PH := (h.1, fun a j => if a = i ∧ j = k then x else h.2.1 a j, h.2.2)
def px_upR (h : PH) (i k : Nat) (r : Option Nat) : PH := (h.1, h.2.1, fun a j => if a = i ∧ j = k then r else h.2.2 a j)
def px_new (h : PH) (t n : Nat) : PH := (h.1 ++ [(t, n)], fun a j => if a = h.1.length then 0 else h.2.1 a j, fun a j => if a = h.1.length then none else h.2.2 a j)
def rng (x : Int) : Prop := -2147483648 ≤ x ∧ x ≤ 2147483647
def OB (h : PH) (c i : Nat) : Prop := ∃ n : Nat, h.1[i]? = some (c, n)
def AI (h : PH) (t i : Nat) (k : Int) : Prop := ∃ n : Nat, h.1[i]? = some (t, n) ∧ 0 ≤ k ∧ k < (n : Int) ∧ k ≤ 2147483647
/-! numbers -/
theorem rng_lo {x : Int} (h : rng x) : Int32.minValue.toInt ≤ x := h.1
theorem rng_hi {x : Int} (h : rng x) : x ≤ Int32.maxValue.toInt := h.2
theorem rng_to {x : Int} (h : rng x) : (Int32.ofInt x).toInt = x := Int32.toInt_ofInt_of_le (by have := h.1; omega) (by have := h.2; omega)
theorem rng_lt {x y : Int} (hx : rng x) (hy : rng y) : Int32.ofInt x < Int32.ofInt y ↔ x < y := by rw [Int32.lt_iff_toInt_lt, rng_to hx, rng_to hy]
theorem rng_le {x y : Int} (hx : rng x) (hy : rng y) : Int32.ofInt x ≤ Int32.ofInt y ↔ x ≤ y := by rw [Int32.le_iff_toInt_le, rng_to hx, rng_to hy]
theorem rng_eq {x y : Int} (hx : rng x) (hy : rng y) : Int32.ofInt x = Int32.ofInt y ↔ x = y := by rw [← Int32.toInt_inj, rng_to hx, rng_to hy]
theorem rng_0 : rng 0 := ⟨by decide, by decide⟩
theorem rng_of (x : Int32) : rng x.toInt := ⟨by have := Int32.le_toInt x; omega, by have := Int32.toInt_lt x; omega⟩
theorem rng_in {k : Int} {n : Nat} (h0 : 0 ≤ k) (h1 : k < (n : Int)) (h2 : k ≤ 2147483647) : vp_in (Int32.ofInt k) n := by
  have hr : rng k := ⟨by omega, h2⟩
  exact vp_in_iff.mpr (by rw [rng_to hr]; exact ⟨h0, h1⟩)
theorem rng_cl {k : Int} (h0 : 0 ≤ k) (h2 : k ≤ 2147483647) : (Int32.ofInt k).toNatClampNeg = k.toNat := by
  rw [Int32.toNatClampNeg_ofInt_of_le (by omega) (by omega)]
/-! the real heap as the pure one says -/
section PX
variable {D : va_G} {cy : Nat → ClassId} {ad : Nat → Nat} {h : PH} {H H1 : Heap}
theorem px_obj {i t n : Nat} (hS : SIM D cy ad h H) (hT : h.1[i]? = some (t, n)) (ht : t < 11) : ∃ q : vw_C, vwCl[t]? = some q ∧ t_OB (ad i) (D.1 t) q.2.2 (D.2 t) H (fun k => px_V (px_ty t k) ad (h.2.1 i k) (h.2.2 i k)) := by
  have h1 := hS i
  unfold px_at at h1
  rw [hT] at h1
  simpa [ht] using h1
theorem px_arI {i n : Nat} (hS : SIM D cy ad h H) (hT : h.1[i]? = some (20, n)) : H[ad i]? = some (arrV (cy 0) n (fun j => .int (Int32.ofInt (h.2.1 i j)))) := by
  have h1 := hS i
  unfold px_at at h1
  rw [hT] at h1
  simpa using h1
theorem px_arR {i t n : Nat} (hS : SIM D cy ad h H) (hT : h.1[i]? = some (t, n)) (ht : 21 ≤ t) : H[ad i]? = some (arrV (cy (t - 20)) n (fun j => va_rf ((h.2.2 i j).map ad))) := by
  have h1 := hS i
  unfold px_at at h1
  rw [hT] at h1
  have a : ¬ t < 11 := by omega
  have b : ¬ t = 20 := by omega
  simpa [a, b] using h1
theorem px_len {i t n : Nat} (hT : h.1[i]? = some (t, n)) : i < h.1.length := (List.getElem?_eq_some_iff.mp hT).1
theorem px_lt {i : Nat} (hS : SIM D cy ad h H) (hi : i < h.1.length) : ad i < H.size := by
  have h1 := hS i
  unfold px_at at h1
  have hT : h.1[i]? = some h.1[i] := List.getElem?_eq_getElem hi
  rw [hT] at h1
  revert h1
  generalize h.1[i] = q
  obtain ⟨t, n⟩ := q
  intro h1
  dsimp only at h1
  split at h1
  · obtain ⟨q, -, cell, h2, -⟩ := h1
    exact (Array.getElem?_eq_some_iff.mp h2).1
  · split at h1
    · exact (Array.getElem?_eq_some_iff.mp h1).1
    · exact (Array.getElem?_eq_some_iff.mp h1).1
theorem px_kept {i : Nat} {h' : PH} (hp : px_at D cy ad h H i) (h1 : h'.1[i]? = h.1[i]?) (h2 : ∀ k, h'.2.1 i k = h.2.1 i k) (h3 : ∀ k, h'.2.2 i k = h.2.2 i k) (hq : i < h.1.length → H1[ad i]? = H[ad i]?) : px_at D cy ad h' H1 i := by
  unfold px_at at hp ⊢
  rw [h1]
  revert hp
  cases hT : h.1[i]? with
  | none => intro _; trivial
  | some q =>
    obtain ⟨t, n⟩ := q
    have hq := hq (px_len hT)
    intro hp
    dsimp only at hp ⊢
    split at hp
    next ht =>
      rw [if_pos ht]
      obtain ⟨q, e1, e2⟩ := hp
      refine ⟨q, e1, (e2.kept hq).to (fun k _ => ?_)⟩
      rw [h2, h3]
    next ht =>
      rw [if_neg ht]
      split at hp
      next h20 =>
        rw [if_pos h20, hq, hp]
        simp only [h2]
      next h20 =>
        rw [if_neg h20, hq, hp]
        simp only [h3]
theorem SIM.keep (hS : SIM D cy ad h H) (hq : ∀ i, i < h.1.length → H1[ad i]? = H[ad i]?) : SIM D cy ad h H1 := fun i => px_kept (hS i) rfl (fun _ => rfl) (fun _ => rfl) (hq i)
theorem ADJ.ne {A : Nat → Prop} {n i j : Nat} (hA : ADJ A ad n) (hi : i < n) (hj : j < n) (hne : j ≠ i) : ad j ≠ ad i := fun e => hne (hA.1 j i hj hi e)
/-- a field's new value -/
theorem SIM.setO {A : Nat → Prop} {h' : PH} {i t n k : Nat} {q : vw_C} {v : Value} (hS : SIM D cy ad h H) (hJ : ADJ A ad h.1.length) (hT : h.1[i]? = some (t, n)) (ht : t < 11) (hc : vwCl[t]? = some q) (hk : k < q.2.2)
    (hob : t_OB (ad i) (D.1 t) q.2.2 (D.2 t) H1 (updV (fun k => px_V (px_ty t k) ad (h.2.1 i k) (h.2.2 i k)) k v)) (oq : ∀ x : Nat, x ≠ ad i → H1[x]? = H[x]?)
    (e1 : h'.1 = h.1) (eo : ∀ a, a ≠ i → ∀ j, h'.2.1 a j = h.2.1 a j ∧ h'.2.2 a j = h.2.2 a j) (en : ∀ j, j ≠ k → h'.2.1 i j = h.2.1 i j ∧ h'.2.2 i j = h.2.2 i j) (ev : px_V (px_ty t k) ad (h'.2.1 i k) (h'.2.2 i k) = v) : SIM D cy ad h' H1 := by
  intro a
  by_cases ha : a = i
  · subst ha
    unfold px_at
    rw [e1, hT]
    dsimp only
    rw [if_pos ht]
    refine ⟨q, hc, hob.to (fun j _ => ?_)⟩
    by_cases hj : j = k
    · subst hj
      simp [updV, ev]
    · simp [updV, hj, (en j hj).1, (en j hj).2]
  · exact px_kept (hS a) (by rw [e1]) (fun j => (eo a ha j).1) (fun j => (eo a ha j).2) (fun hl => oq _ (hJ.ne (px_len hT) hl ha))
theorem SIM.setA {A : Nat → Prop} {h' : PH} {i : Nat} (hS : SIM D cy ad h H) (hJ : ADJ A ad h.1.length) (hi : i < h.1.length) (hn : px_at D cy ad h' H1 i) (oq : ∀ x : Nat, x ≠ ad i → H1[x]? = H[x]?)
    (e1 : h'.1 = h.1) (eo : ∀ a, a ≠ i → ∀ j, h'.2.1 a j = h.2.1 a j ∧ h'.2.2 a j = h.2.2 a j) : SIM D cy ad h' H1 := by
  intro a
  by_cases ha : a = i
  · subst ha; exact hn
  · exact px_kept (hS a) (by rw [e1]) (fun j => (eo a ha j).1) (fun j => (eo a ha j).2) (fun hl => oq _ (hJ.ne hi hl ha))
end PX
/-! locals -/
def px_cat (v : PV) : Nat := match v with
  | .inl _ => 1
  | .inr (.inl _) => 2
  | .inr (.inr _) => 1
theorem px_cat_eq (ad : Nat → Nat) (v : PV) : (px_tr ad v).category = px_cat v := by
  rcases v with x | x | r
  · rfl
  · rfl
  · cases r <;> rfl
def px_sum (st : List PV) : Nat := match st with
  | [] => 0
  | v :: st => px_cat v + px_sum st
theorem px_sum_eq (ad : Nat → Nat) (st : List PV) : ((st.map (px_tr ad)).map fun v => v.category).sum = px_sum st := by
  induction st with
  | nil => rfl
  | cons v st ih =>
    simp only [List.map_cons, List.sum_cons, px_cat_eq, px_sum]
    rw [← ih]
def px_ok (ls : List (Option PV)) (i : Nat) : Bool := match i with
  | 0 => true
  | j + 1 => match ls[j]? with
    | some (some (.inr (.inl _))) => false
    | _ => true
theorem px_ok_spec {ls : List (Option PV)} {i j : Nat} {v : PV} (h : px_ok ls i = true) (hj : j + 1 = i) (hv : ls[j]? = some (some v)) : ¬ px_cat v = 2 := by
  subst hj
  have h' : (match ls[j]? with
    | some (some (.inr (.inl _))) => false
    | _ => true) = true := h
  rw [hv] at h'
  rcases v with x | x | r
  · simp [px_cat]
  · simp at h'
  · simp [px_cat]
def px_lv (ad : Nat → Nat) (ls : List (Option PV)) : List (Nat × Value) := (List.range ls.length).filterMap fun j => match ls[j]? with
  | some (some v) => some (j, px_tr ad v)
  | _ => none
theorem px_lv_mem {ad : Nat → Nat} {ls : List (Option PV)} {j : Nat} {v : PV} (h : ls[j]? = some (some v)) : (j, px_tr ad v) ∈ px_lv ad ls := by
  refine List.mem_filterMap.mpr ⟨j, List.mem_range.mpr (List.getElem?_eq_some_iff.mp h).1, ?_⟩
  rw [h]
theorem PL.has {ad : Nat → Nat} {nL : Nat} {lsA : Array Slot} {ls : List (Option PV)} (h : PL ad nL lsA ls) : lv_has lsA nL (px_lv ad ls) := by
  refine ⟨h.1, h.2.1, fun q hq => ?_⟩
  obtain ⟨j, -, hj⟩ := List.mem_filterMap.mp hq
  revert hj
  cases hl : ls[j]? with
  | none => intro hj; cases hj
  | some x => cases x with
    | none => intro hj; cases hj
    | some v =>
      intro hj
      cases hj
      exact h.2.2 j v hl
theorem PL.set1 {ad : Nat → Nat} {nL i : Nat} {lsA : Array Slot} {ls : List (Option PV)} {v : PV} (hk : px_ok ls i = true) (h : lv_has lsA nL ((i, px_tr ad v) :: (px_lv ad ls).filter (fun q => !(q.1 == i) && !(q.1 + 1 == i && q.2.category == 2)))) : PL ad nL lsA (ls.set i (some v)) := by
  refine ⟨h.1, h.2.1, fun j u hj => ?_⟩
  by_cases e : j = i
  · subst e
    have hl : j < ls.length := by
      have := (List.getElem?_eq_some_iff.mp hj).1
      simpa using this
    rw [List.getElem?_set_self hl] at hj
    cases hj
    exact h.2.2 (j, _) List.mem_cons_self
  · rw [List.getElem?_set_ne (Ne.symm e)] at hj
    refine h.2.2 (j, _) (List.mem_cons_of_mem _ (List.mem_filter.mpr ⟨px_lv_mem hj, ?_⟩))
    have h2 : ¬ (j + 1 = i ∧ (px_tr ad u).category = 2) := fun z => px_ok_spec hk z.1 hj (by rw [← px_cat_eq ad]; exact z.2)
    simp only [Bool.and_eq_true, Bool.not_eq_true', beq_eq_false_iff_ne, ne_eq, e, not_false_eq_true, true_and, Bool.and_eq_false_iff]
    by_cases e2 : j + 1 = i
    · exact Or.inr (fun z => h2 ⟨e2, z⟩)
    · exact Or.inl e2
theorem PL.set2 {ad : Nat → Nat} {nL i : Nat} {lsA : Array Slot} {ls : List (Option PV)} {v : PV} (hk : px_ok ls i = true) (h : lv_has lsA nL ((i, px_tr ad v) :: (px_lv ad ls).filter (fun q => !(q.1 == i) && (!(q.1 == i + 1) && !(q.1 + 1 == i && q.2.category == 2))))) : PL ad nL lsA ((ls.set i (some v)).set (i + 1) none) := by
  refine ⟨h.1, h.2.1, fun j u hj => ?_⟩
  have e1 : j ≠ i + 1 := by
    intro e
    subst e
    by_cases hl : i + 1 < (ls.set i (some v)).length
    · rw [List.getElem?_set_self hl] at hj; cases hj
    · rw [List.getElem?_eq_none (by simpa using hl)] at hj; cases hj
  rw [List.getElem?_set_ne (Ne.symm e1)] at hj
  by_cases e : j = i
  · subst e
    have hl : j < ls.length := by
      have := (List.getElem?_eq_some_iff.mp hj).1
      simpa using this
    rw [List.getElem?_set_self hl] at hj
    cases hj
    exact h.2.2 (j, _) List.mem_cons_self
  · rw [List.getElem?_set_ne (Ne.symm e)] at hj
    refine h.2.2 (j, _) (List.mem_cons_of_mem _ (List.mem_filter.mpr ⟨px_lv_mem hj, ?_⟩))
    have h2 : ¬ (j + 1 = i ∧ (px_tr ad u).category = 2) := fun z => px_ok_spec hk z.1 hj (by rw [← px_cat_eq ad]; exact z.2)
    simp only [Bool.and_eq_true, Bool.not_eq_true', beq_eq_false_iff_ne, ne_eq, e, e1, not_false_eq_true, true_and, Bool.and_eq_false_iff]
    by_cases e2 : j + 1 = i
    · exact Or.inr (fun z => h2 ⟨e2, z⟩)
    · exact Or.inl e2
def px_in (av : List PV) : List (Option PV) := match av with
  | [] => []
  | v :: av => if px_cat v = 2 then some v :: none :: px_in av else some v :: px_in av
def plocs (av : List PV) (n : Nat) : List (Option PV) := px_in av ++ List.replicate (n - (px_in av).length) none
theorem px_in_args (ad : Nat → Nat) (av : List PV) : ∀ (off i : Nat) (v : PV), (px_in av)[i]? = some (some v) → (off + i, px_tr ad v) ∈ lv_args off (av.map (px_tr ad)) := by
  induction av with
  | nil => intro off i v h; simp [px_in] at h
  | cons u av ih =>
    intro off i v h
    unfold px_in at h
    simp only [List.map_cons, lv_args, px_cat_eq]
    by_cases hc : px_cat u = 2
    · rw [if_pos hc] at h ⊢
      match i, h with
      | 0, h => simp at h; subst h; exact List.mem_cons_self
      | 1, h => simp at h
      | i + 2, h =>
        have h' : (px_in av)[i]? = some (some v) := by simpa using h
        have := ih (off + 2) i v h'
        rw [show off + (i + 2) = off + 2 + i by omega]
        exact List.mem_cons_of_mem _ this
    · rw [if_neg hc] at h ⊢
      match i, h with
      | 0, h => simp at h; subst h; exact List.mem_cons_self
      | i + 1, h =>
        have h' : (px_in av)[i]? = some (some v) := by simpa using h
        have := ih (off + 1) i v h'
        rw [show off + (i + 1) = off + 1 + i by omega]
        exact List.mem_cons_of_mem _ this
theorem px_in_len (ad : Nat → Nat) (av : List PV) : (lg_sl (av.map (px_tr ad))).length = (px_in av).length := by
  induction av with
  | nil => rfl
  | cons v av ih =>
    have e : lg_sl ((v :: av).map (px_tr ad)) = (if (px_tr ad v).category = 2 then [Slot.val (px_tr ad v), .second] else [.val (px_tr ad v)]) ++ lg_sl (av.map (px_tr ad)) := rfl
    rw [e, px_cat_eq]
    unfold px_in
    by_cases hc : px_cat v = 2
    · rw [if_pos hc, if_pos hc]; simp [ih]
    · rw [if_neg hc, if_neg hc]; simp [ih]
/-! a method by its body, a body's end -/
theorem met_of_ex {M : MD} {av : List PV} {h : PH} {B : Nat × Nat} {Q : Option PV → PH → Prop} (hy : plainName M.1.cls = true) (hl : (px_in av).length ≤ M.2.2.1) (hE : EX M 0 (plocs av M.2.2.1) [] h B Q) : MET M av h B Q := by
  intro l D cy ad sz
  refine Met.ofW (cc := M.2.1) (maxL := M.2.2.1) (ret := M.2.2.2.1) (ws' := WS) hy rfl ?_
  intro p e s m args below meth c s₁ B0 hml hv
  obtain ⟨rfl, hsz, hS, hK, hG, hJ, had⟩ := hv
  have hts := atoms_spec (ws := .code M.1 M.2.1 M.2.2.1 M.2.2.2.1 :: WS) B0.pre
  have hown : s.vm.findClass M.1.cls = some m.cls := findClass_of_methodNamed B0.named
  have hn := (name_of_methodNamed B0.named B0.method).1
  subst hsz
  have hle := lv_entry (av.map (px_tr ad)) (n := M.2.2.1) (by rw [px_in_len]; exact hl)
  rw [lg_entry_eq]
  revert hle
  generalize (lg_sl (av.map (px_tr ad)) ++ List.replicate (M.2.2.1 - (lg_sl (av.map (px_tr ad))).length) Slot.unset).toArray = lsA
  intro hle
  refine hE p l e _ s m _ below meth c D cy ad h.1 (px_A ad h.1.length s.heap.size) s.heap [] 0 0 lsA ⟨B0.exec, B0.bytes, B0.returns, hml, hown, fun w hw => hts w (List.mem_cons_of_mem _ hw), B0.notSynchronized, hK, rfl, rfl, hn, hG⟩
    ⟨hS, ⟨hJ.1, fun i hi => Or.inl ⟨i, hi, rfl⟩⟩, va_S.rf, fun q hq => Or.inr hq, Nat.zero_add _, Nat.zero_add _, rfl, ⟨[], by simp, rfl⟩, had⟩ ⟨hle.1, hle.2.1, fun i v hv => ?_⟩
  by_cases hi : i < (px_in av).length
  · unfold plocs at hv
    rw [List.getElem?_append_left hi] at hv
    have := hle.2.2 _ (px_in_args ad av 0 i v hv)
    simpa using this
  · unfold plocs at hv
    rw [List.getElem?_append_right (by omega)] at hv
    have := List.eq_of_mem_replicate (List.mem_of_getElem? hv)
    cases this
theorem MET.mono {M : MD} {av : List PV} {h : PH} {B : Nat × Nat} {Q Q' : Option PV → PH → Prop} (hM : MET M av h B Q) (hq : ∀ v h1, Q v h1 → Q' v h1) : MET M av h B Q' := by
  intro l D cy ad sz p e ha hc hk s m args below hf hfit hh hP
  obtain ⟨n, o, a0, a1, a2, ⟨⟨⟨v, h1, e1, e2, e3⟩, e4⟩, e5⟩⟩ := hM l D cy ad sz p e ha hc hk s m args below hf hfit hh hP
  exact ⟨n, o, a0, a1, a2, ⟨⟨v, h1, e1, hq v h1 e2, e3⟩, e4⟩, e5⟩
theorem EX.mono {M : MD} {pc : Nat} {ls : List (Option PV)} {st : List PV} {h : PH} {B : Nat × Nat} {Q Q' : Option PV → PH → Prop} (hM : EX M pc ls st h B Q) (hq : ∀ v h1, Q v h1 → Q' v h1) : EX M pc ls st h B Q' := by
  intro p l e R s m args below meth c D cy ad T0 A H locs cells slots lsA C S L T hT X
  obtain ⟨t, a1, o, b1, b2, ⟨⟨v, h1, e1, e2, e3⟩, e4⟩, e5⟩ := hM p l e R s m args below meth c D cy ad T0 A H locs cells slots lsA C S L T hT X
  exact ⟨t, a1, o, b1, b2, ⟨⟨v, h1, e1, hq v h1 e2, e3⟩, e4⟩, e5⟩
/-- a method that makes nothing leaves every kind as it was -/
theorem MET.kinds {M : MD} {av : List PV} {h : PH} {b : Nat} {Q : Option PV → PH → Prop} (hM : MET M av h (0, b) Q) : MET M av h (0, b) (fun v h1 => h1.1 = h.1 ∧ Q v h1) := by
  intro l D cy ad sz p e ha hc hk s m args below hf hfit hh hP
  obtain ⟨n, o, a0, a1, a2, ⟨⟨⟨v, h1, e1, e2, e3, e4, e5, e6, r, e7, e8⟩, e9⟩, e10⟩⟩ := hM l D cy ad sz p e ha hc hk s m args below hf hfit hh hP
  have hr : r = [] := List.length_eq_zero_iff.mp e8
  exact ⟨n, o, a0, a1, a2, ⟨⟨v, h1, e1, ⟨by rw [e7, hr, List.append_nil], e2⟩, e3, e4, e5, e6, r, e7, e8⟩, e9⟩, e10⟩
end
section
/-! ROWS: an instruction each -/
def b_and (x y : Int) : Int := (Int32.ofInt x &&& Int32.ofInt y).toInt
def b_or (x y : Int) : Int := (Int32.ofInt x ||| Int32.ofInt y).toInt
def b_xor (x y : Int) : Int := (Int32.ofInt x ^^^ Int32.ofInt y).toInt
def b_shl (x y : Int) : Int := (Int32.ofInt x <<< (Int32.ofInt y &&& 31)).toInt
def b_shr (x y : Int) : Int := (Int32.ofInt x >>> (Int32.ofInt y &&& 31)).toInt
def b_ushr (x y : Int) : Int := ((Int32.ofInt x).toUInt32 >>> ((Int32.ofInt y).toUInt32 &&& Int32.toUInt32 31)).toInt32.toInt
theorem cls_ok : ∀ (t : Nat) (q : vw_C), vwCl[t]? = some q → (∀ w ∈ u_ws q.1 q.2.1 q.2.2, w ∈ WS) ∧ (∀ k, k < q.2.2 → parseFieldDescriptor (q.2.1 k).2.2.1 = some (px_ty t k)) ∧ (∀ a, a < q.2.2 → ∀ b, b < q.2.2 → a ≠ b → (q.2.1 a).2.1 ≠ (q.2.1 b).2.1) ∧ t < 11 := by
  intro t q hq
  match t, hq with
  | 0, hq => cases hq; exact ⟨inX0, tyX0_ok, nmX0, by omega⟩
  | 1, hq => cases hq; exact ⟨inX1, tyX1_ok, nmX1, by omega⟩
  | 2, hq => cases hq; exact ⟨inX2, tyX2_ok, nmX2, by omega⟩
  | 3, hq => cases hq; exact ⟨inX3, tyX3_ok, nmX3, by omega⟩
  | 4, hq => cases hq; exact ⟨inX4, tyX4_ok, nmX4, by omega⟩
  | 5, hq => cases hq; exact ⟨inX5, tyX5_ok, nmX5, by omega⟩
  | 6, hq => cases hq; exact ⟨inX6, tyX6_ok, nmX6, by omega⟩
  | 7, hq => cases hq; exact ⟨inX7, tyX7_ok, nmX7, by omega⟩
  | 8, hq => cases hq; exact ⟨inX8, tyX8_ok, nmX8, by omega⟩
  | 9, hq => cases hq; exact ⟨inX9, tyX9_ok, nmX9, by omega⟩
  | 10, hq => cases hq; exact ⟨inX10, tyX10_ok, nmX10, by omega⟩
  | t + 11, hq => simp [vwCl] at hq
theorem ex_iconst {M : MD} {pc : Nat} {ls : List (Option PV)} {st : List PV} {h : PH} {B : Nat × Nat} {Q : Option PV → PH → Prop} {n : Int} (pc' : Nat) (hd : decode M.2.1 pc = .ok (.iconst n, 1)) (hp : pc' = pc + 1)  (k : EX M pc' ls (vi n :: st) h B Q) : EX M pc ls (st) h B Q := by
  subst hp
  intro p l e R s m args below meth c D cy ad T0 A H locs cells slots lsA C S L
  exact lv_iconst C.1 C.2.1 hd rfl (k p l e R s m args below meth c D cy ad T0 A H locs cells slots lsA C S L)
theorem ex_bipush {M : MD} {pc : Nat} {ls : List (Option PV)} {st : List PV} {h : PH} {B : Nat × Nat} {Q : Option PV → PH → Prop} {n : Int} (pc' : Nat) (hd : decode M.2.1 pc = .ok (.bipush n, 2)) (hp : pc' = pc + 2) (hn : Int8.minValue.toInt ≤ n ∧ n ≤ Int8.maxValue.toInt) (k : EX M pc' ls (vi n :: st) h B Q) : EX M pc ls (st) h B Q := by
  subst hp
  intro p l e R s m args below meth c D cy ad T0 A H locs cells slots lsA C S L
  exact lv_bipush C.1 C.2.1 hd (Int8.toInt32_ofInt hn.1 hn.2) (k p l e R s m args below meth c D cy ad T0 A H locs cells slots lsA C S L)
theorem ex_sipush {M : MD} {pc : Nat} {ls : List (Option PV)} {st : List PV} {h : PH} {B : Nat × Nat} {Q : Option PV → PH → Prop} {n : Int} (pc' : Nat) (hd : decode M.2.1 pc = .ok (.sipush n, 3)) (hp : pc' = pc + 3) (hn : Int16.minValue.toInt ≤ n ∧ n ≤ Int16.maxValue.toInt) (k : EX M pc' ls (vi n :: st) h B Q) : EX M pc ls (st) h B Q := by
  subst hp
  intro p l e R s m args below meth c D cy ad T0 A H locs cells slots lsA C S L
  exact lv_sipush C.1 C.2.1 hd (Int16.toInt32_ofInt hn.1 hn.2) (k p l e R s m args below meth c D cy ad T0 A H locs cells slots lsA C S L)
theorem ex_ldcw {M : MD} {pc : Nat} {ls : List (Option PV)} {st : List PV} {h : PH} {B : Nat × Nat} {Q : Option PV → PH → Prop} {i : Nat} {n : Int} (pc' : Nat) (hd : decode M.2.1 pc = .ok (.ldc_w i, 3)) (hp : pc' = pc + 3) (hw : Cond.constant M.1.cls i (Int32.ofInt n) ∈ WS) (k : EX M pc' ls (vi n :: st) h B Q) : EX M pc ls (st) h B Q := by
  subst hp
  intro p l e R s m args below meth c D cy ad T0 A H locs cells slots lsA C S L
  exact lv_ldcw C.1 C.2.1 C.2.2.2.2.1 (C.2.2.2.2.2.1 _ hw) hd (k p l e R s m args below meth c D cy ad T0 A H locs cells slots lsA C S L)
theorem ex_ldc {M : MD} {pc : Nat} {ls : List (Option PV)} {st : List PV} {h : PH} {B : Nat × Nat} {Q : Option PV → PH → Prop} {i : Nat} {n : Int} (pc' : Nat) (hd : decode M.2.1 pc = .ok (.ldc i, 2)) (hp : pc' = pc + 2) (hw : Cond.constant M.1.cls i (Int32.ofInt n) ∈ WS) (k : EX M pc' ls (vi n :: st) h B Q) : EX M pc ls (st) h B Q := by
  subst hp
  intro p l e R s m args below meth c D cy ad T0 A H locs cells slots lsA C S L
  exact lv_ldc C.1 C.2.1 C.2.2.2.2.1 (C.2.2.2.2.2.1 _ hw) hd (k p l e R s m args below meth c D cy ad T0 A H locs cells slots lsA C S L)
theorem ex_ldc2 {M : MD} {pc : Nat} {ls : List (Option PV)} {st : List PV} {h : PH} {B : Nat × Nat} {Q : Option PV → PH → Prop} {i : Nat} {n : Int} (pc' : Nat) (hd : decode M.2.1 pc = .ok (.ldc2_w i, 3)) (hp : pc' = pc + 3) (hw : Cond.constantLong M.1.cls i (Int64.ofInt n) ∈ WS) (k : EX M pc' ls (vl n :: st) h B Q) : EX M pc ls (st) h B Q := by
  subst hp
  intro p l e R s m args below meth c D cy ad T0 A H locs cells slots lsA C S L
  exact lv_ldc2 C.1 C.2.1 C.2.2.2.2.1 (C.2.2.2.2.2.1 _ hw) hd (k p l e R s m args below meth c D cy ad T0 A H locs cells slots lsA C S L)
theorem ex_iload_n {M : MD} {pc : Nat} {ls : List (Option PV)} {st : List PV} {h : PH} {B : Nat × Nat} {Q : Option PV → PH → Prop} {i : Fin 4} {x : Int} (pc' : Nat) (hd : decode M.2.1 pc = .ok (.iload_n i, 1)) (hp : pc' = pc + 1) (hl : ls[(i : Nat)]? = some (some (vi x))) (k : EX M pc' ls (vi x :: st) h B Q) : EX M pc ls (st) h B Q := by
  subst hp
  intro p l e R s m args below meth c D cy ad T0 A H locs cells slots lsA C S L
  exact lv_iload_n C.1 C.2.1 hd rfl (L.2.2 _ _ hl) (k p l e R s m args below meth c D cy ad T0 A H locs cells slots lsA C S L)
theorem ex_iload {M : MD} {pc : Nat} {ls : List (Option PV)} {st : List PV} {h : PH} {B : Nat × Nat} {Q : Option PV → PH → Prop} {i : Nat} {x : Int} (pc' : Nat) (hd : decode M.2.1 pc = .ok (.iload i, 2)) (hp : pc' = pc + 2) (hl : ls[i]? = some (some (vi x))) (k : EX M pc' ls (vi x :: st) h B Q) : EX M pc ls (st) h B Q := by
  subst hp
  intro p l e R s m args below meth c D cy ad T0 A H locs cells slots lsA C S L
  exact lv_iload C.1 C.2.1 hd (L.2.2 _ _ hl) (k p l e R s m args below meth c D cy ad T0 A H locs cells slots lsA C S L)
theorem ex_lload_n {M : MD} {pc : Nat} {ls : List (Option PV)} {st : List PV} {h : PH} {B : Nat × Nat} {Q : Option PV → PH → Prop} {i : Fin 4} {x : Int} (pc' : Nat) (hd : decode M.2.1 pc = .ok (.lload_n i, 1)) (hp : pc' = pc + 1) (hl : ls[(i : Nat)]? = some (some (vl x))) (k : EX M pc' ls (vl x :: st) h B Q) : EX M pc ls (st) h B Q := by
  subst hp
  intro p l e R s m args below meth c D cy ad T0 A H locs cells slots lsA C S L
  exact lv_lload_n C.1 C.2.1 hd rfl (L.2.2 _ _ hl) (k p l e R s m args below meth c D cy ad T0 A H locs cells slots lsA C S L)
theorem ex_lload {M : MD} {pc : Nat} {ls : List (Option PV)} {st : List PV} {h : PH} {B : Nat × Nat} {Q : Option PV → PH → Prop} {i : Nat} {x : Int} (pc' : Nat) (hd : decode M.2.1 pc = .ok (.lload i, 2)) (hp : pc' = pc + 2) (hl : ls[i]? = some (some (vl x))) (k : EX M pc' ls (vl x :: st) h B Q) : EX M pc ls (st) h B Q := by
  subst hp
  intro p l e R s m args below meth c D cy ad T0 A H locs cells slots lsA C S L
  exact lv_lload C.1 C.2.1 hd (L.2.2 _ _ hl) (k p l e R s m args below meth c D cy ad T0 A H locs cells slots lsA C S L)
theorem ex_aload_n {M : MD} {pc : Nat} {ls : List (Option PV)} {st : List PV} {h : PH} {B : Nat × Nat} {Q : Option PV → PH → Prop} {i : Fin 4} {x : Nat} (pc' : Nat) (hd : decode M.2.1 pc = .ok (.aload_n i, 1)) (hp : pc' = pc + 1) (hl : ls[(i : Nat)]? = some (some (vr x))) (k : EX M pc' ls (vr x :: st) h B Q) : EX M pc ls (st) h B Q := by
  subst hp
  intro p l e R s m args below meth c D cy ad T0 A H locs cells slots lsA C S L
  exact lv_aload_n C.1 C.2.1 hd rfl (L.2.2 _ _ hl) (k p l e R s m args below meth c D cy ad T0 A H locs cells slots lsA C S L)
theorem ex_aload {M : MD} {pc : Nat} {ls : List (Option PV)} {st : List PV} {h : PH} {B : Nat × Nat} {Q : Option PV → PH → Prop} {i : Nat} {x : Nat} (pc' : Nat) (hd : decode M.2.1 pc = .ok (.aload i, 2)) (hp : pc' = pc + 2) (hl : ls[i]? = some (some (vr x))) (k : EX M pc' ls (vr x :: st) h B Q) : EX M pc ls (st) h B Q := by
  subst hp
  intro p l e R s m args below meth c D cy ad T0 A H locs cells slots lsA C S L
  exact lv_aload C.1 C.2.1 hd (L.2.2 _ _ hl) (k p l e R s m args below meth c D cy ad T0 A H locs cells slots lsA C S L)
theorem ex_istore_n {M : MD} {pc : Nat} {ls : List (Option PV)} {st : List PV} {h : PH} {B : Nat × Nat} {Q : Option PV → PH → Prop} {i : Fin 4} {x : Int} (pc' : Nat) (hd : decode M.2.1 pc = .ok (.istore_n i, 1)) (hp : pc' = pc + 1) (hi : (i : Nat) < M.2.2.1) (hk : px_ok ls i = true) (k : EX M pc' (ls.set (i : Nat) (some (vi x))) (st) h B Q) : EX M pc ls (vi x :: st) h B Q := by
  subst hp
  intro p l e R s m args below meth c D cy ad T0 A H locs cells slots lsA C S L
  refine lv_istore_n C.1 C.2.1 hd rfl L.has hi rfl (fun lsB hL => ?_)
  exact k p l e R s m args below meth c D cy ad T0 A H locs cells slots lsB C S (PL.set1 hk hL)
theorem ex_istore {M : MD} {pc : Nat} {ls : List (Option PV)} {st : List PV} {h : PH} {B : Nat × Nat} {Q : Option PV → PH → Prop} {i : Nat} {x : Int} (pc' : Nat) (hd : decode M.2.1 pc = .ok (.istore i, 2)) (hp : pc' = pc + 2) (hi : i < M.2.2.1) (hk : px_ok ls i = true) (k : EX M pc' (ls.set i (some (vi x))) (st) h B Q) : EX M pc ls (vi x :: st) h B Q := by
  subst hp
  intro p l e R s m args below meth c D cy ad T0 A H locs cells slots lsA C S L
  refine lv_istore C.1 C.2.1 hd L.has hi rfl (fun lsB hL => ?_)
  exact k p l e R s m args below meth c D cy ad T0 A H locs cells slots lsB C S (PL.set1 hk hL)
theorem ex_astore_n {M : MD} {pc : Nat} {ls : List (Option PV)} {st : List PV} {h : PH} {B : Nat × Nat} {Q : Option PV → PH → Prop} {i : Fin 4} {x : Nat} (pc' : Nat) (hd : decode M.2.1 pc = .ok (.astore_n i, 1)) (hp : pc' = pc + 1) (hi : (i : Nat) < M.2.2.1) (hk : px_ok ls i = true) (k : EX M pc' (ls.set (i : Nat) (some (vr x))) (st) h B Q) : EX M pc ls (vr x :: st) h B Q := by
  subst hp
  intro p l e R s m args below meth c D cy ad T0 A H locs cells slots lsA C S L
  refine lv_astore_n C.1 C.2.1 hd rfl L.has hi rfl (fun lsB hL => ?_)
  exact k p l e R s m args below meth c D cy ad T0 A H locs cells slots lsB C S (PL.set1 hk hL)
theorem ex_astore {M : MD} {pc : Nat} {ls : List (Option PV)} {st : List PV} {h : PH} {B : Nat × Nat} {Q : Option PV → PH → Prop} {i : Nat} {x : Nat} (pc' : Nat) (hd : decode M.2.1 pc = .ok (.astore i, 2)) (hp : pc' = pc + 2) (hi : i < M.2.2.1) (hk : px_ok ls i = true) (k : EX M pc' (ls.set i (some (vr x))) (st) h B Q) : EX M pc ls (vr x :: st) h B Q := by
  subst hp
  intro p l e R s m args below meth c D cy ad T0 A H locs cells slots lsA C S L
  refine lv_astore C.1 C.2.1 hd L.has hi rfl (fun lsB hL => ?_)
  exact k p l e R s m args below meth c D cy ad T0 A H locs cells slots lsB C S (PL.set1 hk hL)
theorem ex_lstore_n {M : MD} {pc : Nat} {ls : List (Option PV)} {st : List PV} {h : PH} {B : Nat × Nat} {Q : Option PV → PH → Prop} {i : Fin 4} {x : Int} (pc' : Nat) (hd : decode M.2.1 pc = .ok (.lstore_n i, 1)) (hp : pc' = pc + 1) (hi : (i : Nat) + 1 < M.2.2.1) (hk : px_ok ls i = true) (k : EX M pc' ((ls.set (i : Nat) (some (vl x))).set ((i : Nat) + 1) none) (st) h B Q) : EX M pc ls (vl x :: st) h B Q := by
  subst hp
  intro p l e R s m args below meth c D cy ad T0 A H locs cells slots lsA C S L
  refine lv_lstore_n C.1 C.2.1 hd rfl L.has hi rfl (fun lsB hL => ?_)
  exact k p l e R s m args below meth c D cy ad T0 A H locs cells slots lsB C S (PL.set2 hk hL)
theorem ex_iinc {M : MD} {pc : Nat} {ls : List (Option PV)} {st : List PV} {h : PH} {B : Nat × Nat} {Q : Option PV → PH → Prop} {i : Nat} {n x : Int} (pc' : Nat) (hd : decode M.2.1 pc = .ok (.iinc i n, 3)) (hp : pc' = pc + 3) (hl : ls[i]? = some (some (vi x))) (hi : i < M.2.2.1) (hk : px_ok ls i = true) (k : EX M pc' (ls.set i (some (vi (x + n)))) st h B Q) : EX M pc ls st h B Q := by
  subst hp
  intro p l e R s m args below meth c D cy ad T0 A H locs cells slots lsA C S L
  obtain ⟨j, hj⟩ := List.getElem?_of_mem (px_lv_mem (ad := ad) hl)
  refine lv_iinc C.1 C.2.1 hd L.has hj (Int32.ofInt_add x n).symm hi rfl (fun lsB hL => ?_)
  exact k p l e R s m args below meth c D cy ad T0 A H locs cells slots lsB C S (PL.set1 (v := vi (x + n)) hk hL)
theorem ex_iadd {M : MD} {pc : Nat} {ls : List (Option PV)} {st : List PV} {h : PH} {B : Nat × Nat} {Q : Option PV → PH → Prop} {x y : Int} (pc' : Nat) (hd : decode M.2.1 pc = .ok (.iadd, 1)) (hp : pc' = pc + 1)  (k : EX M pc' ls (vi (x + y) :: st) h B Q) : EX M pc ls (vi y :: vi x :: st) h B Q := by
  subst hp
  intro p l e R s m args below meth c D cy ad T0 A H locs cells slots lsA C S L
  have k := k p l e R s m args below meth c D cy ad T0 A H locs cells slots lsA C S L
  refine lv_iadd C.1 C.2.1 hd ?_
  rw [← Int32.ofInt_add]
  exact k
theorem ex_isub {M : MD} {pc : Nat} {ls : List (Option PV)} {st : List PV} {h : PH} {B : Nat × Nat} {Q : Option PV → PH → Prop} {x y : Int} (pc' : Nat) (hd : decode M.2.1 pc = .ok (.isub, 1)) (hp : pc' = pc + 1)  (k : EX M pc' ls (vi (x - y) :: st) h B Q) : EX M pc ls (vi y :: vi x :: st) h B Q := by
  subst hp
  intro p l e R s m args below meth c D cy ad T0 A H locs cells slots lsA C S L
  have k := k p l e R s m args below meth c D cy ad T0 A H locs cells slots lsA C S L
  refine lv_isub C.1 C.2.1 hd ?_
  rw [← Int32.ofInt_sub]
  exact k
theorem ex_imul {M : MD} {pc : Nat} {ls : List (Option PV)} {st : List PV} {h : PH} {B : Nat × Nat} {Q : Option PV → PH → Prop} {x y : Int} (pc' : Nat) (hd : decode M.2.1 pc = .ok (.imul, 1)) (hp : pc' = pc + 1)  (k : EX M pc' ls (vi (x * y) :: st) h B Q) : EX M pc ls (vi y :: vi x :: st) h B Q := by
  subst hp
  intro p l e R s m args below meth c D cy ad T0 A H locs cells slots lsA C S L
  have k := k p l e R s m args below meth c D cy ad T0 A H locs cells slots lsA C S L
  refine lv_imul C.1 C.2.1 hd ?_
  rw [← Int32.ofInt_mul]
  exact k
theorem ex_ladd {M : MD} {pc : Nat} {ls : List (Option PV)} {st : List PV} {h : PH} {B : Nat × Nat} {Q : Option PV → PH → Prop} {x y : Int} (pc' : Nat) (hd : decode M.2.1 pc = .ok (.ladd, 1)) (hp : pc' = pc + 1)  (k : EX M pc' ls (vl (x + y) :: st) h B Q) : EX M pc ls (vl y :: vl x :: st) h B Q := by
  subst hp
  intro p l e R s m args below meth c D cy ad T0 A H locs cells slots lsA C S L
  have k := k p l e R s m args below meth c D cy ad T0 A H locs cells slots lsA C S L
  refine lv_ladd C.1 C.2.1 hd ?_
  rw [← Int64.ofInt_add]
  exact k
theorem ex_lmul {M : MD} {pc : Nat} {ls : List (Option PV)} {st : List PV} {h : PH} {B : Nat × Nat} {Q : Option PV → PH → Prop} {x y : Int} (pc' : Nat) (hd : decode M.2.1 pc = .ok (.lmul, 1)) (hp : pc' = pc + 1)  (k : EX M pc' ls (vl (x * y) :: st) h B Q) : EX M pc ls (vl y :: vl x :: st) h B Q := by
  subst hp
  intro p l e R s m args below meth c D cy ad T0 A H locs cells slots lsA C S L
  have k := k p l e R s m args below meth c D cy ad T0 A H locs cells slots lsA C S L
  refine lv_lmul C.1 C.2.1 hd ?_
  rw [← Int64.ofInt_mul]
  exact k
theorem ex_iand {M : MD} {pc : Nat} {ls : List (Option PV)} {st : List PV} {h : PH} {B : Nat × Nat} {Q : Option PV → PH → Prop} {x y : Int} (pc' : Nat) (hd : decode M.2.1 pc = .ok (.iand, 1)) (hp : pc' = pc + 1)  (k : EX M pc' ls (vi (b_and x y) :: st) h B Q) : EX M pc ls (vi y :: vi x :: st) h B Q := by
  subst hp
  intro p l e R s m args below meth c D cy ad T0 A H locs cells slots lsA C S L
  have k := k p l e R s m args below meth c D cy ad T0 A H locs cells slots lsA C S L
  refine lv_iand C.1 C.2.1 hd ?_
  simp only [List.map_cons, px_tr, b_and, Int32.ofInt_toInt] at k ⊢
  exact k
theorem ex_ior {M : MD} {pc : Nat} {ls : List (Option PV)} {st : List PV} {h : PH} {B : Nat × Nat} {Q : Option PV → PH → Prop} {x y : Int} (pc' : Nat) (hd : decode M.2.1 pc = .ok (.ior, 1)) (hp : pc' = pc + 1)  (k : EX M pc' ls (vi (b_or x y) :: st) h B Q) : EX M pc ls (vi y :: vi x :: st) h B Q := by
  subst hp
  intro p l e R s m args below meth c D cy ad T0 A H locs cells slots lsA C S L
  have k := k p l e R s m args below meth c D cy ad T0 A H locs cells slots lsA C S L
  refine lv_ior C.1 C.2.1 hd ?_
  simp only [List.map_cons, px_tr, b_or, Int32.ofInt_toInt] at k ⊢
  exact k
theorem ex_ixor {M : MD} {pc : Nat} {ls : List (Option PV)} {st : List PV} {h : PH} {B : Nat × Nat} {Q : Option PV → PH → Prop} {x y : Int} (pc' : Nat) (hd : decode M.2.1 pc = .ok (.ixor, 1)) (hp : pc' = pc + 1)  (k : EX M pc' ls (vi (b_xor x y) :: st) h B Q) : EX M pc ls (vi y :: vi x :: st) h B Q := by
  subst hp
  intro p l e R s m args below meth c D cy ad T0 A H locs cells slots lsA C S L
  have k := k p l e R s m args below meth c D cy ad T0 A H locs cells slots lsA C S L
  refine lv_ixor C.1 C.2.1 hd ?_
  simp only [List.map_cons, px_tr, b_xor, Int32.ofInt_toInt] at k ⊢
  exact k
theorem ex_ishl {M : MD} {pc : Nat} {ls : List (Option PV)} {st : List PV} {h : PH} {B : Nat × Nat} {Q : Option PV → PH → Prop} {x y : Int} (pc' : Nat) (hd : decode M.2.1 pc = .ok (.ishl, 1)) (hp : pc' = pc + 1)  (k : EX M pc' ls (vi (b_shl x y) :: st) h B Q) : EX M pc ls (vi y :: vi x :: st) h B Q := by
  subst hp
  intro p l e R s m args below meth c D cy ad T0 A H locs cells slots lsA C S L
  have k := k p l e R s m args below meth c D cy ad T0 A H locs cells slots lsA C S L
  refine lv_ishl C.1 C.2.1 hd ?_
  simp only [List.map_cons, px_tr, b_shl, Int32.ofInt_toInt] at k ⊢
  exact k
theorem ex_ishr {M : MD} {pc : Nat} {ls : List (Option PV)} {st : List PV} {h : PH} {B : Nat × Nat} {Q : Option PV → PH → Prop} {x y : Int} (pc' : Nat) (hd : decode M.2.1 pc = .ok (.ishr, 1)) (hp : pc' = pc + 1)  (k : EX M pc' ls (vi (b_shr x y) :: st) h B Q) : EX M pc ls (vi y :: vi x :: st) h B Q := by
  subst hp
  intro p l e R s m args below meth c D cy ad T0 A H locs cells slots lsA C S L
  have k := k p l e R s m args below meth c D cy ad T0 A H locs cells slots lsA C S L
  refine lv_ishr C.1 C.2.1 hd ?_
  simp only [List.map_cons, px_tr, b_shr, Int32.ofInt_toInt] at k ⊢
  exact k
theorem ex_iushr {M : MD} {pc : Nat} {ls : List (Option PV)} {st : List PV} {h : PH} {B : Nat × Nat} {Q : Option PV → PH → Prop} {x y : Int} (pc' : Nat) (hd : decode M.2.1 pc = .ok (.iushr, 1)) (hp : pc' = pc + 1)  (k : EX M pc' ls (vi (b_ushr x y) :: st) h B Q) : EX M pc ls (vi y :: vi x :: st) h B Q := by
  subst hp
  intro p l e R s m args below meth c D cy ad T0 A H locs cells slots lsA C S L
  have k := k p l e R s m args below meth c D cy ad T0 A H locs cells slots lsA C S L
  refine lv_iushr C.1 C.2.1 hd rfl ?_
  simp only [List.map_cons, px_tr, b_ushr, Int32.ofInt_toInt] at k ⊢
  exact k
theorem ex_idiv {M : MD} {pc : Nat} {ls : List (Option PV)} {st : List PV} {h : PH} {B : Nat × Nat} {Q : Option PV → PH → Prop} {x y : Int} (pc' : Nat) (hd : decode M.2.1 pc = .ok (.idiv, 1)) (hp : pc' = pc + 1) (rx : rng x) (ry : rng y) (hy : ¬ y = 0) (k : EX M pc' ls (vi (x.tdiv y) :: st) h B Q) : EX M pc ls (vi y :: vi x :: st) h B Q := by
  subst hp
  intro p l e R s m args below meth c D cy ad T0 A H locs cells slots lsA C S L
  have k := k p l e R s m args below meth c D cy ad T0 A H locs cells slots lsA C S L
  refine lv_idiv C.1 C.2.1 hd (fun z => hy ((rng_eq ry rng_0).mp z)) ?_
  rw [← Int32.ofInt_tdiv rx.1 rx.2 ry.1 ry.2]
  exact k
theorem ex_i2l {M : MD} {pc : Nat} {ls : List (Option PV)} {st : List PV} {h : PH} {B : Nat × Nat} {Q : Option PV → PH → Prop} {x : Int} (pc' : Nat) (hd : decode M.2.1 pc = .ok (.i2l, 1)) (hp : pc' = pc + 1) (rx : rng x) (k : EX M pc' ls (vl x :: st) h B Q) : EX M pc ls (vi x :: st) h B Q := by
  subst hp
  intro p l e R s m args below meth c D cy ad T0 A H locs cells slots lsA C S L
  exact lv_i2l C.1 C.2.1 hd (Int32.toInt64_ofInt rx.1 rx.2) (k p l e R s m args below meth c D cy ad T0 A H locs cells slots lsA C S L)
theorem ex_dup {M : MD} {pc : Nat} {ls : List (Option PV)} {st : List PV} {h : PH} {B : Nat × Nat} {Q : Option PV → PH → Prop} {v : PV} (pc' : Nat) (hd : decode M.2.1 pc = .ok (.dup, 1)) (hp : pc' = pc + 1) (hv : px_cat v = 1) (k : EX M pc' ls (v :: v :: st) h B Q) : EX M pc ls (v :: st) h B Q := by
  subst hp
  intro p l e R s m args below meth c D cy ad T0 A H locs cells slots lsA C S L
  exact lv_dup C.1 C.2.1 hd (by rw [px_cat_eq]; exact hv) (k p l e R s m args below meth c D cy ad T0 A H locs cells slots lsA C S L)
theorem ex_pop {M : MD} {pc : Nat} {ls : List (Option PV)} {st : List PV} {h : PH} {B : Nat × Nat} {Q : Option PV → PH → Prop} {v : PV} (pc' : Nat) (hd : decode M.2.1 pc = .ok (.pop, 1)) (hp : pc' = pc + 1) (hv : px_cat v = 1) (k : EX M pc' ls (st) h B Q) : EX M pc ls (v :: st) h B Q := by
  subst hp
  intro p l e R s m args below meth c D cy ad T0 A H locs cells slots lsA C S L
  exact lv_pop C.1 C.2.1 hd (by rw [px_cat_eq]; exact hv) (k p l e R s m args below meth c D cy ad T0 A H locs cells slots lsA C S L)
theorem ex_dup2 {M : MD} {pc : Nat} {ls : List (Option PV)} {st : List PV} {h : PH} {B : Nat × Nat} {Q : Option PV → PH → Prop} {v u : PV} (pc' : Nat) (hd : decode M.2.1 pc = .ok (.dup2, 1)) (hp : pc' = pc + 1) (hv : px_cat v = 1) (hu : px_cat u = 1) (k : EX M pc' ls (v :: u :: v :: u :: st) h B Q) : EX M pc ls (v :: u :: st) h B Q := by
  subst hp
  intro p l e R s m args below meth c D cy ad T0 A H locs cells slots lsA C S L
  exact lv_dup2_11 C.1 C.2.1 hd (by rw [px_cat_eq]; exact hv) (by rw [px_cat_eq]; exact hu) (k p l e R s m args below meth c D cy ad T0 A H locs cells slots lsA C S L)
theorem ex_goto {M : MD} {pc : Nat} {ls : List (Option PV)} {st : List PV} {h : PH} {B : Nat × Nat} {Q : Option PV → PH → Prop} {off : Int} (tgt : Nat) (hd : decode M.2.1 pc = .ok (.goto off, 3)) (ht : (pc : Int) + off = (tgt : Int)) (k : EX M tgt ls st h B Q) : EX M pc ls st h B Q := by
  intro p l e R s m args below meth c D cy ad T0 A H locs cells slots lsA C S L
  exact lv_goto C.1 C.2.1 hd ht (k p l e R s m args below meth c D cy ad T0 A H locs cells slots lsA C S L)
theorem ex_icmp_eq {M : MD} {pc : Nat} {ls : List (Option PV)} {st : List PV} {h : PH} {B : Nat × Nat} {Q : Option PV → PH → Prop} {x y : Int} {off : Int} (tgt pc' : Nat) (hd : decode M.2.1 pc = .ok (.if_icmp .eq off, 3)) (ht : (pc : Int) + off = (tgt : Int)) (hp : pc' = pc + 3) (rx : rng x) (ry : rng y) (kt : x = y → EX M tgt ls st h B Q) (kf : ¬ x = y → EX M pc' ls st h B Q) : EX M pc ls (vi y :: vi x :: st) h B Q := by
  subst hp
  intro p l e R s m args below meth c D cy ad T0 A H locs cells slots lsA C S L
  refine lv_icmp_eq C.1 C.2.1 hd ht (fun z => kt ?_ p l e R s m args below meth c D cy ad T0 A H locs cells slots lsA C S L) (fun z => kf ?_ p l e R s m args below meth c D cy ad T0 A H locs cells slots lsA C S L)
  · first | exact (rng_eq rx ry).mp z | exact fun q => z ((rng_eq rx ry).mpr q) | exact (rng_lt rx ry).mp z | exact (rng_lt ry rx).mp z | exact (rng_le rx ry).mp z | exact (rng_le ry rx).mp z | exact Int.not_lt.mp (fun q => z ((rng_lt rx ry).mpr q)) | exact Int.not_lt.mp (fun q => z ((rng_lt ry rx).mpr q)) | exact Int.not_le.mp (fun q => z ((rng_le rx ry).mpr q)) | exact Int.not_le.mp (fun q => z ((rng_le ry rx).mpr q)) | exact Classical.byContradiction (fun q => z (fun q2 => q ((rng_eq rx ry).mp q2)))
  · first | exact (rng_eq rx ry).mp z | exact fun q => z ((rng_eq rx ry).mpr q) | exact (rng_lt rx ry).mp z | exact (rng_lt ry rx).mp z | exact (rng_le rx ry).mp z | exact (rng_le ry rx).mp z | exact Int.not_lt.mp (fun q => z ((rng_lt rx ry).mpr q)) | exact Int.not_lt.mp (fun q => z ((rng_lt ry rx).mpr q)) | exact Int.not_le.mp (fun q => z ((rng_le rx ry).mpr q)) | exact Int.not_le.mp (fun q => z ((rng_le ry rx).mpr q)) | exact Classical.byContradiction (fun q => z (fun q2 => q ((rng_eq rx ry).mp q2)))
theorem ex_if_eq {M : MD} {pc : Nat} {ls : List (Option PV)} {st : List PV} {h : PH} {B : Nat × Nat} {Q : Option PV → PH → Prop} {x : Int} {off : Int} (tgt pc' : Nat) (hd : decode M.2.1 pc = .ok (.ifCond .eq off, 3)) (ht : (pc : Int) + off = (tgt : Int)) (hp : pc' = pc + 3) (rx : rng x) (kt : x = 0 → EX M tgt ls st h B Q) (kf : ¬ x = 0 → EX M pc' ls st h B Q) : EX M pc ls (vi x :: st) h B Q := by
  subst hp
  intro p l e R s m args below meth c D cy ad T0 A H locs cells slots lsA C S L
  refine lv_if_eq C.1 C.2.1 hd ht (fun z => kt ?_ p l e R s m args below meth c D cy ad T0 A H locs cells slots lsA C S L) (fun z => kf ?_ p l e R s m args below meth c D cy ad T0 A H locs cells slots lsA C S L)
  · first | exact (rng_eq rx rng_0).mp z | exact fun q => z ((rng_eq rx rng_0).mpr q) | exact (rng_lt rx rng_0).mp z | exact (rng_lt rng_0 rx).mp z | exact (rng_le rx rng_0).mp z | exact (rng_le rng_0 rx).mp z | exact Int.not_lt.mp (fun q => z ((rng_lt rx rng_0).mpr q)) | exact Int.not_lt.mp (fun q => z ((rng_lt rng_0 rx).mpr q)) | exact Int.not_le.mp (fun q => z ((rng_le rx rng_0).mpr q)) | exact Int.not_le.mp (fun q => z ((rng_le rng_0 rx).mpr q)) | exact Classical.byContradiction (fun q => z (fun q2 => q ((rng_eq rx rng_0).mp q2)))
  · first | exact (rng_eq rx rng_0).mp z | exact fun q => z ((rng_eq rx rng_0).mpr q) | exact (rng_lt rx rng_0).mp z | exact (rng_lt rng_0 rx).mp z | exact (rng_le rx rng_0).mp z | exact (rng_le rng_0 rx).mp z | exact Int.not_lt.mp (fun q => z ((rng_lt rx rng_0).mpr q)) | exact Int.not_lt.mp (fun q => z ((rng_lt rng_0 rx).mpr q)) | exact Int.not_le.mp (fun q => z ((rng_le rx rng_0).mpr q)) | exact Int.not_le.mp (fun q => z ((rng_le rng_0 rx).mpr q)) | exact Classical.byContradiction (fun q => z (fun q2 => q ((rng_eq rx rng_0).mp q2)))
theorem ex_icmp_ne {M : MD} {pc : Nat} {ls : List (Option PV)} {st : List PV} {h : PH} {B : Nat × Nat} {Q : Option PV → PH → Prop} {x y : Int} {off : Int} (tgt pc' : Nat) (hd : decode M.2.1 pc = .ok (.if_icmp .ne off, 3)) (ht : (pc : Int) + off = (tgt : Int)) (hp : pc' = pc + 3) (rx : rng x) (ry : rng y) (kt : ¬ x = y → EX M tgt ls st h B Q) (kf : x = y → EX M pc' ls st h B Q) : EX M pc ls (vi y :: vi x :: st) h B Q := by
  subst hp
  intro p l e R s m args below meth c D cy ad T0 A H locs cells slots lsA C S L
  refine lv_icmp_ne C.1 C.2.1 hd ht (fun z => kt ?_ p l e R s m args below meth c D cy ad T0 A H locs cells slots lsA C S L) (fun z => kf ?_ p l e R s m args below meth c D cy ad T0 A H locs cells slots lsA C S L)
  · first | exact (rng_eq rx ry).mp z | exact fun q => z ((rng_eq rx ry).mpr q) | exact (rng_lt rx ry).mp z | exact (rng_lt ry rx).mp z | exact (rng_le rx ry).mp z | exact (rng_le ry rx).mp z | exact Int.not_lt.mp (fun q => z ((rng_lt rx ry).mpr q)) | exact Int.not_lt.mp (fun q => z ((rng_lt ry rx).mpr q)) | exact Int.not_le.mp (fun q => z ((rng_le rx ry).mpr q)) | exact Int.not_le.mp (fun q => z ((rng_le ry rx).mpr q)) | exact Classical.byContradiction (fun q => z (fun q2 => q ((rng_eq rx ry).mp q2)))
  · first | exact (rng_eq rx ry).mp z | exact fun q => z ((rng_eq rx ry).mpr q) | exact (rng_lt rx ry).mp z | exact (rng_lt ry rx).mp z | exact (rng_le rx ry).mp z | exact (rng_le ry rx).mp z | exact Int.not_lt.mp (fun q => z ((rng_lt rx ry).mpr q)) | exact Int.not_lt.mp (fun q => z ((rng_lt ry rx).mpr q)) | exact Int.not_le.mp (fun q => z ((rng_le rx ry).mpr q)) | exact Int.not_le.mp (fun q => z ((rng_le ry rx).mpr q)) | exact Classical.byContradiction (fun q => z (fun q2 => q ((rng_eq rx ry).mp q2)))
theorem ex_if_ne {M : MD} {pc : Nat} {ls : List (Option PV)} {st : List PV} {h : PH} {B : Nat × Nat} {Q : Option PV → PH → Prop} {x : Int} {off : Int} (tgt pc' : Nat) (hd : decode M.2.1 pc = .ok (.ifCond .ne off, 3)) (ht : (pc : Int) + off = (tgt : Int)) (hp : pc' = pc + 3) (rx : rng x) (kt : ¬ x = 0 → EX M tgt ls st h B Q) (kf : x = 0 → EX M pc' ls st h B Q) : EX M pc ls (vi x :: st) h B Q := by
  subst hp
  intro p l e R s m args below meth c D cy ad T0 A H locs cells slots lsA C S L
  refine lv_if_ne C.1 C.2.1 hd ht (fun z => kt ?_ p l e R s m args below meth c D cy ad T0 A H locs cells slots lsA C S L) (fun z => kf ?_ p l e R s m args below meth c D cy ad T0 A H locs cells slots lsA C S L)
  · first | exact (rng_eq rx rng_0).mp z | exact fun q => z ((rng_eq rx rng_0).mpr q) | exact (rng_lt rx rng_0).mp z | exact (rng_lt rng_0 rx).mp z | exact (rng_le rx rng_0).mp z | exact (rng_le rng_0 rx).mp z | exact Int.not_lt.mp (fun q => z ((rng_lt rx rng_0).mpr q)) | exact Int.not_lt.mp (fun q => z ((rng_lt rng_0 rx).mpr q)) | exact Int.not_le.mp (fun q => z ((rng_le rx rng_0).mpr q)) | exact Int.not_le.mp (fun q => z ((rng_le rng_0 rx).mpr q)) | exact Classical.byContradiction (fun q => z (fun q2 => q ((rng_eq rx rng_0).mp q2)))
  · first | exact (rng_eq rx rng_0).mp z | exact fun q => z ((rng_eq rx rng_0).mpr q) | exact (rng_lt rx rng_0).mp z | exact (rng_lt rng_0 rx).mp z | exact (rng_le rx rng_0).mp z | exact (rng_le rng_0 rx).mp z | exact Int.not_lt.mp (fun q => z ((rng_lt rx rng_0).mpr q)) | exact Int.not_lt.mp (fun q => z ((rng_lt rng_0 rx).mpr q)) | exact Int.not_le.mp (fun q => z ((rng_le rx rng_0).mpr q)) | exact Int.not_le.mp (fun q => z ((rng_le rng_0 rx).mpr q)) | exact Classical.byContradiction (fun q => z (fun q2 => q ((rng_eq rx rng_0).mp q2)))
theorem ex_icmp_lt {M : MD} {pc : Nat} {ls : List (Option PV)} {st : List PV} {h : PH} {B : Nat × Nat} {Q : Option PV → PH → Prop} {x y : Int} {off : Int} (tgt pc' : Nat) (hd : decode M.2.1 pc = .ok (.if_icmp .lt off, 3)) (ht : (pc : Int) + off = (tgt : Int)) (hp : pc' = pc + 3) (rx : rng x) (ry : rng y) (kt : x < y → EX M tgt ls st h B Q) (kf : y ≤ x → EX M pc' ls st h B Q) : EX M pc ls (vi y :: vi x :: st) h B Q := by
  subst hp
  intro p l e R s m args below meth c D cy ad T0 A H locs cells slots lsA C S L
  refine lv_icmp_lt C.1 C.2.1 hd ht (fun z => kt ?_ p l e R s m args below meth c D cy ad T0 A H locs cells slots lsA C S L) (fun z => kf ?_ p l e R s m args below meth c D cy ad T0 A H locs cells slots lsA C S L)
  · first | exact (rng_eq rx ry).mp z | exact fun q => z ((rng_eq rx ry).mpr q) | exact (rng_lt rx ry).mp z | exact (rng_lt ry rx).mp z | exact (rng_le rx ry).mp z | exact (rng_le ry rx).mp z | exact Int.not_lt.mp (fun q => z ((rng_lt rx ry).mpr q)) | exact Int.not_lt.mp (fun q => z ((rng_lt ry rx).mpr q)) | exact Int.not_le.mp (fun q => z ((rng_le rx ry).mpr q)) | exact Int.not_le.mp (fun q => z ((rng_le ry rx).mpr q)) | exact Classical.byContradiction (fun q => z (fun q2 => q ((rng_eq rx ry).mp q2)))
  · first | exact (rng_eq rx ry).mp z | exact fun q => z ((rng_eq rx ry).mpr q) | exact (rng_lt rx ry).mp z | exact (rng_lt ry rx).mp z | exact (rng_le rx ry).mp z | exact (rng_le ry rx).mp z | exact Int.not_lt.mp (fun q => z ((rng_lt rx ry).mpr q)) | exact Int.not_lt.mp (fun q => z ((rng_lt ry rx).mpr q)) | exact Int.not_le.mp (fun q => z ((rng_le rx ry).mpr q)) | exact Int.not_le.mp (fun q => z ((rng_le ry rx).mpr q)) | exact Classical.byContradiction (fun q => z (fun q2 => q ((rng_eq rx ry).mp q2)))
theorem ex_if_lt {M : MD} {pc : Nat} {ls : List (Option PV)} {st : List PV} {h : PH} {B : Nat × Nat} {Q : Option PV → PH → Prop} {x : Int} {off : Int} (tgt pc' : Nat) (hd : decode M.2.1 pc = .ok (.ifCond .lt off, 3)) (ht : (pc : Int) + off = (tgt : Int)) (hp : pc' = pc + 3) (rx : rng x) (kt : x < 0 → EX M tgt ls st h B Q) (kf : 0 ≤ x → EX M pc' ls st h B Q) : EX M pc ls (vi x :: st) h B Q := by
  subst hp
  intro p l e R s m args below meth c D cy ad T0 A H locs cells slots lsA C S L
  refine lv_if_lt C.1 C.2.1 hd ht (fun z => kt ?_ p l e R s m args below meth c D cy ad T0 A H locs cells slots lsA C S L) (fun z => kf ?_ p l e R s m args below meth c D cy ad T0 A H locs cells slots lsA C S L)
  · first | exact (rng_eq rx rng_0).mp z | exact fun q => z ((rng_eq rx rng_0).mpr q) | exact (rng_lt rx rng_0).mp z | exact (rng_lt rng_0 rx).mp z | exact (rng_le rx rng_0).mp z | exact (rng_le rng_0 rx).mp z | exact Int.not_lt.mp (fun q => z ((rng_lt rx rng_0).mpr q)) | exact Int.not_lt.mp (fun q => z ((rng_lt rng_0 rx).mpr q)) | exact Int.not_le.mp (fun q => z ((rng_le rx rng_0).mpr q)) | exact Int.not_le.mp (fun q => z ((rng_le rng_0 rx).mpr q)) | exact Classical.byContradiction (fun q => z (fun q2 => q ((rng_eq rx rng_0).mp q2)))
  · first | exact (rng_eq rx rng_0).mp z | exact fun q => z ((rng_eq rx rng_0).mpr q) | exact (rng_lt rx rng_0).mp z | exact (rng_lt rng_0 rx).mp z | exact (rng_le rx rng_0).mp z | exact (rng_le rng_0 rx).mp z | exact Int.not_lt.mp (fun q => z ((rng_lt rx rng_0).mpr q)) | exact Int.not_lt.mp (fun q => z ((rng_lt rng_0 rx).mpr q)) | exact Int.not_le.mp (fun q => z ((rng_le rx rng_0).mpr q)) | exact Int.not_le.mp (fun q => z ((rng_le rng_0 rx).mpr q)) | exact Classical.byContradiction (fun q => z (fun q2 => q ((rng_eq rx rng_0).mp q2)))
theorem ex_icmp_ge {M : MD} {pc : Nat} {ls : List (Option PV)} {st : List PV} {h : PH} {B : Nat × Nat} {Q : Option PV → PH → Prop} {x y : Int} {off : Int} (tgt pc' : Nat) (hd : decode M.2.1 pc = .ok (.if_icmp .ge off, 3)) (ht : (pc : Int) + off = (tgt : Int)) (hp : pc' = pc + 3) (rx : rng x) (ry : rng y) (kt : y ≤ x → EX M tgt ls st h B Q) (kf : x < y → EX M pc' ls st h B Q) : EX M pc ls (vi y :: vi x :: st) h B Q := by
  subst hp
  intro p l e R s m args below meth c D cy ad T0 A H locs cells slots lsA C S L
  refine lv_icmp_ge C.1 C.2.1 hd ht (fun z => kt ?_ p l e R s m args below meth c D cy ad T0 A H locs cells slots lsA C S L) (fun z => kf ?_ p l e R s m args below meth c D cy ad T0 A H locs cells slots lsA C S L)
  · first | exact (rng_eq rx ry).mp z | exact fun q => z ((rng_eq rx ry).mpr q) | exact (rng_lt rx ry).mp z | exact (rng_lt ry rx).mp z | exact (rng_le rx ry).mp z | exact (rng_le ry rx).mp z | exact Int.not_lt.mp (fun q => z ((rng_lt rx ry).mpr q)) | exact Int.not_lt.mp (fun q => z ((rng_lt ry rx).mpr q)) | exact Int.not_le.mp (fun q => z ((rng_le rx ry).mpr q)) | exact Int.not_le.mp (fun q => z ((rng_le ry rx).mpr q)) | exact Classical.byContradiction (fun q => z (fun q2 => q ((rng_eq rx ry).mp q2)))
  · first | exact (rng_eq rx ry).mp z | exact fun q => z ((rng_eq rx ry).mpr q) | exact (rng_lt rx ry).mp z | exact (rng_lt ry rx).mp z | exact (rng_le rx ry).mp z | exact (rng_le ry rx).mp z | exact Int.not_lt.mp (fun q => z ((rng_lt rx ry).mpr q)) | exact Int.not_lt.mp (fun q => z ((rng_lt ry rx).mpr q)) | exact Int.not_le.mp (fun q => z ((rng_le rx ry).mpr q)) | exact Int.not_le.mp (fun q => z ((rng_le ry rx).mpr q)) | exact Classical.byContradiction (fun q => z (fun q2 => q ((rng_eq rx ry).mp q2)))
theorem ex_if_ge {M : MD} {pc : Nat} {ls : List (Option PV)} {st : List PV} {h : PH} {B : Nat × Nat} {Q : Option PV → PH → Prop} {x : Int} {off : Int} (tgt pc' : Nat) (hd : decode M.2.1 pc = .ok (.ifCond .ge off, 3)) (ht : (pc : Int) + off = (tgt : Int)) (hp : pc' = pc + 3) (rx : rng x) (kt : 0 ≤ x → EX M tgt ls st h B Q) (kf : x < 0 → EX M pc' ls st h B Q) : EX M pc ls (vi x :: st) h B Q := by
  subst hp
  intro p l e R s m args below meth c D cy ad T0 A H locs cells slots lsA C S L
  refine lv_if_ge C.1 C.2.1 hd ht (fun z => kt ?_ p l e R s m args below meth c D cy ad T0 A H locs cells slots lsA C S L) (fun z => kf ?_ p l e R s m args below meth c D cy ad T0 A H locs cells slots lsA C S L)
  · first | exact (rng_eq rx rng_0).mp z | exact fun q => z ((rng_eq rx rng_0).mpr q) | exact (rng_lt rx rng_0).mp z | exact (rng_lt rng_0 rx).mp z | exact (rng_le rx rng_0).mp z | exact (rng_le rng_0 rx).mp z | exact Int.not_lt.mp (fun q => z ((rng_lt rx rng_0).mpr q)) | exact Int.not_lt.mp (fun q => z ((rng_lt rng_0 rx).mpr q)) | exact Int.not_le.mp (fun q => z ((rng_le rx rng_0).mpr q)) | exact Int.not_le.mp (fun q => z ((rng_le rng_0 rx).mpr q)) | exact Classical.byContradiction (fun q => z (fun q2 => q ((rng_eq rx rng_0).mp q2)))
  · first | exact (rng_eq rx rng_0).mp z | exact fun q => z ((rng_eq rx rng_0).mpr q) | exact (rng_lt rx rng_0).mp z | exact (rng_lt rng_0 rx).mp z | exact (rng_le rx rng_0).mp z | exact (rng_le rng_0 rx).mp z | exact Int.not_lt.mp (fun q => z ((rng_lt rx rng_0).mpr q)) | exact Int.not_lt.mp (fun q => z ((rng_lt rng_0 rx).mpr q)) | exact Int.not_le.mp (fun q => z ((rng_le rx rng_0).mpr q)) | exact Int.not_le.mp (fun q => z ((rng_le rng_0 rx).mpr q)) | exact Classical.byContradiction (fun q => z (fun q2 => q ((rng_eq rx rng_0).mp q2)))
theorem ex_icmp_gt {M : MD} {pc : Nat} {ls : List (Option PV)} {st : List PV} {h : PH} {B : Nat × Nat} {Q : Option PV → PH → Prop} {x y : Int} {off : Int} (tgt pc' : Nat) (hd : decode M.2.1 pc = .ok (.if_icmp .gt off, 3)) (ht : (pc : Int) + off = (tgt : Int)) (hp : pc' = pc + 3) (rx : rng x) (ry : rng y) (kt : y < x → EX M tgt ls st h B Q) (kf : x ≤ y → EX M pc' ls st h B Q) : EX M pc ls (vi y :: vi x :: st) h B Q := by
  subst hp
  intro p l e R s m args below meth c D cy ad T0 A H locs cells slots lsA C S L
  refine lv_icmp_gt C.1 C.2.1 hd ht (fun z => kt ?_ p l e R s m args below meth c D cy ad T0 A H locs cells slots lsA C S L) (fun z => kf ?_ p l e R s m args below meth c D cy ad T0 A H locs cells slots lsA C S L)
  · first | exact (rng_eq rx ry).mp z | exact fun q => z ((rng_eq rx ry).mpr q) | exact (rng_lt rx ry).mp z | exact (rng_lt ry rx).mp z | exact (rng_le rx ry).mp z | exact (rng_le ry rx).mp z | exact Int.not_lt.mp (fun q => z ((rng_lt rx ry).mpr q)) | exact Int.not_lt.mp (fun q => z ((rng_lt ry rx).mpr q)) | exact Int.not_le.mp (fun q => z ((rng_le rx ry).mpr q)) | exact Int.not_le.mp (fun q => z ((rng_le ry rx).mpr q)) | exact Classical.byContradiction (fun q => z (fun q2 => q ((rng_eq rx ry).mp q2)))
  · first | exact (rng_eq rx ry).mp z | exact fun q => z ((rng_eq rx ry).mpr q) | exact (rng_lt rx ry).mp z | exact (rng_lt ry rx).mp z | exact (rng_le rx ry).mp z | exact (rng_le ry rx).mp z | exact Int.not_lt.mp (fun q => z ((rng_lt rx ry).mpr q)) | exact Int.not_lt.mp (fun q => z ((rng_lt ry rx).mpr q)) | exact Int.not_le.mp (fun q => z ((rng_le rx ry).mpr q)) | exact Int.not_le.mp (fun q => z ((rng_le ry rx).mpr q)) | exact Classical.byContradiction (fun q => z (fun q2 => q ((rng_eq rx ry).mp q2)))
theorem ex_if_gt {M : MD} {pc : Nat} {ls : List (Option PV)} {st : List PV} {h : PH} {B : Nat × Nat} {Q : Option PV → PH → Prop} {x : Int} {off : Int} (tgt pc' : Nat) (hd : decode M.2.1 pc = .ok (.ifCond .gt off, 3)) (ht : (pc : Int) + off = (tgt : Int)) (hp : pc' = pc + 3) (rx : rng x) (kt : 0 < x → EX M tgt ls st h B Q) (kf : x ≤ 0 → EX M pc' ls st h B Q) : EX M pc ls (vi x :: st) h B Q := by
  subst hp
  intro p l e R s m args below meth c D cy ad T0 A H locs cells slots lsA C S L
  refine lv_if_gt C.1 C.2.1 hd ht (fun z => kt ?_ p l e R s m args below meth c D cy ad T0 A H locs cells slots lsA C S L) (fun z => kf ?_ p l e R s m args below meth c D cy ad T0 A H locs cells slots lsA C S L)
  · first | exact (rng_eq rx rng_0).mp z | exact fun q => z ((rng_eq rx rng_0).mpr q) | exact (rng_lt rx rng_0).mp z | exact (rng_lt rng_0 rx).mp z | exact (rng_le rx rng_0).mp z | exact (rng_le rng_0 rx).mp z | exact Int.not_lt.mp (fun q => z ((rng_lt rx rng_0).mpr q)) | exact Int.not_lt.mp (fun q => z ((rng_lt rng_0 rx).mpr q)) | exact Int.not_le.mp (fun q => z ((rng_le rx rng_0).mpr q)) | exact Int.not_le.mp (fun q => z ((rng_le rng_0 rx).mpr q)) | exact Classical.byContradiction (fun q => z (fun q2 => q ((rng_eq rx rng_0).mp q2)))
  · first | exact (rng_eq rx rng_0).mp z | exact fun q => z ((rng_eq rx rng_0).mpr q) | exact (rng_lt rx rng_0).mp z | exact (rng_lt rng_0 rx).mp z | exact (rng_le rx rng_0).mp z | exact (rng_le rng_0 rx).mp z | exact Int.not_lt.mp (fun q => z ((rng_lt rx rng_0).mpr q)) | exact Int.not_lt.mp (fun q => z ((rng_lt rng_0 rx).mpr q)) | exact Int.not_le.mp (fun q => z ((rng_le rx rng_0).mpr q)) | exact Int.not_le.mp (fun q => z ((rng_le rng_0 rx).mpr q)) | exact Classical.byContradiction (fun q => z (fun q2 => q ((rng_eq rx rng_0).mp q2)))
theorem ex_icmp_le {M : MD} {pc : Nat} {ls : List (Option PV)} {st : List PV} {h : PH} {B : Nat × Nat} {Q : Option PV → PH → Prop} {x y : Int} {off : Int} (tgt pc' : Nat) (hd : decode M.2.1 pc = .ok (.if_icmp .le off, 3)) (ht : (pc : Int) + off = (tgt : Int)) (hp : pc' = pc + 3) (rx : rng x) (ry : rng y) (kt : x ≤ y → EX M tgt ls st h B Q) (kf : y < x → EX M pc' ls st h B Q) : EX M pc ls (vi y :: vi x :: st) h B Q := by
  subst hp
  intro p l e R s m args below meth c D cy ad T0 A H locs cells slots lsA C S L
  refine lv_icmp_le C.1 C.2.1 hd ht (fun z => kt ?_ p l e R s m args below meth c D cy ad T0 A H locs cells slots lsA C S L) (fun z => kf ?_ p l e R s m args below meth c D cy ad T0 A H locs cells slots lsA C S L)
  · first | exact (rng_eq rx ry).mp z | exact fun q => z ((rng_eq rx ry).mpr q) | exact (rng_lt rx ry).mp z | exact (rng_lt ry rx).mp z | exact (rng_le rx ry).mp z | exact (rng_le ry rx).mp z | exact Int.not_lt.mp (fun q => z ((rng_lt rx ry).mpr q)) | exact Int.not_lt.mp (fun q => z ((rng_lt ry rx).mpr q)) | exact Int.not_le.mp (fun q => z ((rng_le rx ry).mpr q)) | exact Int.not_le.mp (fun q => z ((rng_le ry rx).mpr q)) | exact Classical.byContradiction (fun q => z (fun q2 => q ((rng_eq rx ry).mp q2)))
  · first | exact (rng_eq rx ry).mp z | exact fun q => z ((rng_eq rx ry).mpr q) | exact (rng_lt rx ry).mp z | exact (rng_lt ry rx).mp z | exact (rng_le rx ry).mp z | exact (rng_le ry rx).mp z | exact Int.not_lt.mp (fun q => z ((rng_lt rx ry).mpr q)) | exact Int.not_lt.mp (fun q => z ((rng_lt ry rx).mpr q)) | exact Int.not_le.mp (fun q => z ((rng_le rx ry).mpr q)) | exact Int.not_le.mp (fun q => z ((rng_le ry rx).mpr q)) | exact Classical.byContradiction (fun q => z (fun q2 => q ((rng_eq rx ry).mp q2)))
theorem ex_if_le {M : MD} {pc : Nat} {ls : List (Option PV)} {st : List PV} {h : PH} {B : Nat × Nat} {Q : Option PV → PH → Prop} {x : Int} {off : Int} (tgt pc' : Nat) (hd : decode M.2.1 pc = .ok (.ifCond .le off, 3)) (ht : (pc : Int) + off = (tgt : Int)) (hp : pc' = pc + 3) (rx : rng x) (kt : x ≤ 0 → EX M tgt ls st h B Q) (kf : 0 < x → EX M pc' ls st h B Q) : EX M pc ls (vi x :: st) h B Q := by
  subst hp
  intro p l e R s m args below meth c D cy ad T0 A H locs cells slots lsA C S L
  refine lv_if_le C.1 C.2.1 hd ht (fun z => kt ?_ p l e R s m args below meth c D cy ad T0 A H locs cells slots lsA C S L) (fun z => kf ?_ p l e R s m args below meth c D cy ad T0 A H locs cells slots lsA C S L)
  · first | exact (rng_eq rx rng_0).mp z | exact fun q => z ((rng_eq rx rng_0).mpr q) | exact (rng_lt rx rng_0).mp z | exact (rng_lt rng_0 rx).mp z | exact (rng_le rx rng_0).mp z | exact (rng_le rng_0 rx).mp z | exact Int.not_lt.mp (fun q => z ((rng_lt rx rng_0).mpr q)) | exact Int.not_lt.mp (fun q => z ((rng_lt rng_0 rx).mpr q)) | exact Int.not_le.mp (fun q => z ((rng_le rx rng_0).mpr q)) | exact Int.not_le.mp (fun q => z ((rng_le rng_0 rx).mpr q)) | exact Classical.byContradiction (fun q => z (fun q2 => q ((rng_eq rx rng_0).mp q2)))
  · first | exact (rng_eq rx rng_0).mp z | exact fun q => z ((rng_eq rx rng_0).mpr q) | exact (rng_lt rx rng_0).mp z | exact (rng_lt rng_0 rx).mp z | exact (rng_le rx rng_0).mp z | exact (rng_le rng_0 rx).mp z | exact Int.not_lt.mp (fun q => z ((rng_lt rx rng_0).mpr q)) | exact Int.not_lt.mp (fun q => z ((rng_lt rng_0 rx).mpr q)) | exact Int.not_le.mp (fun q => z ((rng_le rx rng_0).mpr q)) | exact Int.not_le.mp (fun q => z ((rng_le rng_0 rx).mpr q)) | exact Classical.byContradiction (fun q => z (fun q2 => q ((rng_eq rx rng_0).mp q2)))
theorem ex_tswOut {M : MD} {pc : Nat} {ls : List (Option PV)} {st : List PV} {h : PH} {B : Nat × Nat} {Q : Option PV → PH → Prop} {x dflt lo hi : Int} {offs : Array Int} {len : Nat} (tgt : Nat) (hd : decode M.2.1 pc = .ok (.tableswitch dflt lo hi offs, len)) (rx : rng x) (hx : x < lo ∨ hi < x) (ht : (pc : Int) + dflt = (tgt : Int)) (k : EX M tgt ls st h B Q) : EX M pc ls (vi x :: st) h B Q := by
  intro p l e R s m args below meth c D cy ad T0 A H locs cells slots lsA C S L
  exact lv_tableOut C.1 C.2.1 hd (by rw [rng_to rx]; exact hx) ht (k p l e R s m args below meth c D cy ad T0 A H locs cells slots lsA C S L)
theorem ex_tswIn {M : MD} {pc : Nat} {ls : List (Option PV)} {st : List PV} {h : PH} {B : Nat × Nat} {Q : Option PV → PH → Prop} {x dflt lo hi off : Int} {offs : Array Int} {len : Nat} (v : Int) (tgt : Nat) (hd : decode M.2.1 pc = .ok (.tableswitch dflt lo hi offs, len)) (hx : x = v) (rv : rng v) (h1 : lo ≤ v) (h2 : v ≤ hi) (ho : offs[(v - lo).toNat]? = some off) (ht : (pc : Int) + off = (tgt : Int)) (k : EX M tgt ls st h B Q) : EX M pc ls (vi x :: st) h B Q := by
  subst hx
  intro p l e R s m args below meth c D cy ad T0 A H locs cells slots lsA C S L
  exact lv_tableIn C.1 C.2.1 hd (by rw [rng_to rv]; omega) (by rw [rng_to rv]; omega) (by rw [rng_to rv]; exact ho) ht (k p l e R s m args below meth c D cy ad T0 A H locs cells slots lsA C S L)
theorem ex_getV {M : MD} {pc : Nat} {ls : List (Option PV)} {st : List PV} {h : PH} {B : Nat × Nat} {Q : Option PV → PH → Prop} {i c0 k0 : Nat} {idx : Nat} {q : vw_C} (pc' : Nat) (hd : decode M.2.1 pc = .ok (.getfield idx, 3)) (hp : pc' = pc + 3) (hO : OB h c0 i) (hc : vwCl[c0]? = some q) (hk : k0 < q.2.2) (hw : Cond.fieldLink M.1.cls idx (q.2.1 k0).1 (q.2.1 k0).2.1 (q.2.1 k0).2.2.1 ∈ WS) {v : PV} (hv : ∀ ad : Nat → Nat, px_V (px_ty c0 k0) ad (h.2.1 i k0) (h.2.2 i k0) = px_tr ad v) (k : EX M pc' ls (v :: st) h B Q) : EX M pc ls (vr i :: st) h B Q := by
  subst hp
  intro p l e R s m args below meth c D cy ad T0 A H locs cells slots lsA C S L
  obtain ⟨n, hT⟩ := hO
  obtain ⟨a1, a2, a3, a4⟩ := cls_ok c0 q hc
  obtain ⟨q', hq', cell, q1, q2, q3, q4⟩ := px_obj S.1 hT a4
  cases hc.symm.trans hq'
  obtain ⟨hS, hfc, kC, hkC, hkind⟩ := C.2.2.2.2.2.2.2.1.1 c0 q hc
  obtain ⟨cf, kf, fi, f, hi, hsl⟩ := hS k0 hk
  refine W.getf C.1 C.2.1 C.2.2.2.2.1 (C.2.2.2.2.2.1 _ hw) hi (u_facts hfc hkC (u_lays C.2.2.2.2.2.1 a1 hk) hi).1 q1 (by rw [q3]; exact fun h => by cases h) (v := px_tr ad v) ?_ rfl rfl hd (k p l e R s m args below meth c D cy ad T0 A H locs cells slots lsA C S L)
  rw [hsl, q4 k0 hk]
  exact congrArg some (hv ad)
theorem ex_getI {M : MD} {pc : Nat} {ls : List (Option PV)} {st : List PV} {h : PH} {B : Nat × Nat} {Q : Option PV → PH → Prop} {i : Nat} {idx : Nat} {q : vw_C} (c0 k0 pc' : Nat) (hd : decode M.2.1 pc = .ok (.getfield idx, 3)) (hp : pc' = pc + 3) (hc : vwCl[c0]? = some q) (hk : k0 < q.2.2) (hw : Cond.fieldLink M.1.cls idx (q.2.1 k0).1 (q.2.1 k0).2.1 (q.2.1 k0).2.2.1 ∈ WS) (hy : px_ty c0 k0 = .int ∨ px_ty c0 k0 = .boolean) (hO : OB h c0 i) (k : EX M pc' ls (vi (h.2.1 i k0) :: st) h B Q) : EX M pc ls (vr i :: st) h B Q :=
  ex_getV pc' hd hp hO hc hk hw (fun ad => by rcases hy with e | e <;> rw [e] <;> rfl) k
theorem ex_getL {M : MD} {pc : Nat} {ls : List (Option PV)} {st : List PV} {h : PH} {B : Nat × Nat} {Q : Option PV → PH → Prop} {i : Nat} {idx : Nat} {q : vw_C} (c0 k0 pc' : Nat) (hd : decode M.2.1 pc = .ok (.getfield idx, 3)) (hp : pc' = pc + 3) (hc : vwCl[c0]? = some q) (hk : k0 < q.2.2) (hw : Cond.fieldLink M.1.cls idx (q.2.1 k0).1 (q.2.1 k0).2.1 (q.2.1 k0).2.2.1 ∈ WS) (hy : px_ty c0 k0 = .long) (hO : OB h c0 i) (k : EX M pc' ls (vl (h.2.1 i k0) :: st) h B Q) : EX M pc ls (vr i :: st) h B Q :=
  ex_getV pc' hd hp hO hc hk hw (fun ad => by rw [hy]; rfl) k
def px_isR (ty : FieldType) : Bool := match ty with
  | .object _ => true
  | .array _ => true
  | _ => false
theorem ex_getR {M : MD} {pc : Nat} {ls : List (Option PV)} {st : List PV} {h : PH} {B : Nat × Nat} {Q : Option PV → PH → Prop} {i a : Nat} {idx : Nat} {q : vw_C} (c0 k0 pc' : Nat) (hd : decode M.2.1 pc = .ok (.getfield idx, 3)) (hp : pc' = pc + 3) (hc : vwCl[c0]? = some q) (hk : k0 < q.2.2) (hw : Cond.fieldLink M.1.cls idx (q.2.1 k0).1 (q.2.1 k0).2.1 (q.2.1 k0).2.2.1 ∈ WS) (hy : px_isR (px_ty c0 k0) = true) (hO : OB h c0 i) (ha : h.2.2 i k0 = some a) (k : EX M pc' ls (vr a :: st) h B Q) : EX M pc ls (vr i :: st) h B Q :=
  ex_getV pc' hd hp hO hc hk hw (fun ad => by
    rw [ha]
    revert hy
    cases px_ty c0 k0 <;> intro hy <;> first | rfl | (cases hy)) k
theorem ex_putV {M : MD} {pc : Nat} {ls : List (Option PV)} {st : List PV} {h : PH} {B : Nat × Nat} {Q : Option PV → PH → Prop} {i c0 k0 : Nat} {idx : Nat} {q : vw_C} (pc' : Nat) (hd : decode M.2.1 pc = .ok (.putfield idx, 3)) (hp : pc' = pc + 3) (hO : OB h c0 i) (hc : vwCl[c0]? = some q) (hk : k0 < q.2.2) (hw : Cond.fieldLink M.1.cls idx (q.2.1 k0).1 (q.2.1 k0).2.1 (q.2.1 k0).2.2.1 ∈ WS) (hf : (q.2.1 k0).2.2.2 = false) {v : PV} {h1 : PH}
    (hn : ∀ ad, narrow (px_ty c0 k0) (px_tr ad v) = px_tr ad v) (hfit : ∀ ad, fits (px_ty c0 k0) (px_tr ad v) = true) (e1 : h1.1 = h.1) (eo : ∀ a, a ≠ i → ∀ j, h1.2.1 a j = h.2.1 a j ∧ h1.2.2 a j = h.2.2 a j) (en : ∀ j, j ≠ k0 → h1.2.1 i j = h.2.1 i j ∧ h1.2.2 i j = h.2.2 i j) (ev : ∀ ad, px_V (px_ty c0 k0) ad (h1.2.1 i k0) (h1.2.2 i k0) = px_tr ad v)
    (k : EX M pc' ls st h1 B Q) : EX M pc ls (v :: vr i :: st) h B Q := by
  subst hp
  intro p l e R s m args below meth c D cy ad T0 A H locs cells slots lsA C S L
  obtain ⟨n, hT⟩ := hO
  obtain ⟨a1, a2, a3, a4⟩ := cls_ok c0 q hc
  obtain ⟨q', hq', hob⟩ := px_obj S.1 hT a4
  cases hc.symm.trans hq'
  obtain ⟨cell, q1, q2, q3, q4⟩ := id hob
  have hap := va_apart (own := M.1.cls) (C := q.1) (T := q.2.1) (N := q.2.2) C.2.2.2.2.2.1 a1 (px_ty c0) a2 a3 C.2.2.2.2.2.2.2.1 hc
  obtain ⟨hS, hfc, kC, hkC, hkind⟩ := C.2.2.2.2.2.2.2.1.1 c0 q hc
  obtain ⟨cf, kf, fi, f, hi, hsl⟩ := hS k0 hk
  have hlay := C.2.2.2.2.2.1 _ (a1 _ (u_in_lay hk))
  unfold u_lay at hlay
  rw [if_neg (by rw [hf]; decide)] at hlay
  have hst := (u_facts hfc hkC (u_lays C.2.2.2.2.2.1 a1 hk) hi).1
  have h6 := u_store hfc hkC hkind hlay hi (a2 k0 hk) (hn ad) (hfit ad)
  refine W.putK C.1 C.2.1 (f := f) ⟨C.2.2.2.2.1, C.2.2.2.2.2.1 _ hw, ⟨_, _, _, hi⟩, hst⟩ (by rw [q2]; exact h6) q1 q3 (by rw [hsl]; exact k2_hasslot (q4 k0 hk)) rfl rfl hd fun H1 ez z oq => ?_
  rw [hsl] at ez
  have hS1 : SIM D cy ad h1 H1 := S.1.setO S.2.1 hT a4 hc hk ⟨_, ez, q2, q3, t_set q4 hap hk (px_tr ad v)⟩ oq e1 eo en (ev ad)
  have hJ : ADJ A ad h1.1.length := by rw [e1]; exact S.2.1
  exact k p l e R s m args below meth c D cy ad T0 A H1 _ cells slots lsA C ⟨hS1, hJ, S.2.2.1.put z oq (S.2.1.2 _ (px_len hT)), S.2.2.2.1, S.2.2.2.2.1, S.2.2.2.2.2.1, z.trans S.2.2.2.2.2.2.1, (by rw [e1]; exact S.2.2.2.2.2.2.2.1), fun j hj => by rw [e1, z]; exact S.2.2.2.2.2.2.2.2 j hj⟩ L
theorem ex_putVF {M : MD} {pc : Nat} {ls : List (Option PV)} {st : List PV} {h : PH} {B : Nat × Nat} {Q : Option PV → PH → Prop} {i c0 k0 : Nat} {idx : Nat} {q : vw_C} (pc' : Nat) (hd : decode M.2.1 pc = .ok (.putfield idx, 3)) (hp : pc' = pc + 3) (hO : OB h c0 i) (hc : vwCl[c0]? = some q) (hk : k0 < q.2.2) (hw : Cond.fieldLink M.1.cls idx (q.2.1 k0).1 (q.2.1 k0).2.1 (q.2.1 k0).2.2.1 ∈ WS) (hf : (q.2.1 k0).2.2.2 = true) (hM : M.1.name = "<init>") (hde : (q.2.1 k0).1 = M.1.cls) {v : PV} {h1 : PH}
    (hn : ∀ ad, narrow (px_ty c0 k0) (px_tr ad v) = px_tr ad v) (hfit : ∀ ad, fits (px_ty c0 k0) (px_tr ad v) = true) (e1 : h1.1 = h.1) (eo : ∀ a, a ≠ i → ∀ j, h1.2.1 a j = h.2.1 a j ∧ h1.2.2 a j = h.2.2 a j) (en : ∀ j, j ≠ k0 → h1.2.1 i j = h.2.1 i j ∧ h1.2.2 i j = h.2.2 i j) (ev : ∀ ad, px_V (px_ty c0 k0) ad (h1.2.1 i k0) (h1.2.2 i k0) = px_tr ad v)
    (k : EX M pc' ls st h1 B Q) : EX M pc ls (v :: vr i :: st) h B Q := by
  subst hp
  intro p l e R s m args below meth c D cy ad T0 A H locs cells slots lsA C S L
  obtain ⟨n, hT⟩ := hO
  obtain ⟨a1, a2, a3, a4⟩ := cls_ok c0 q hc
  obtain ⟨q', hq', hob⟩ := px_obj S.1 hT a4
  cases hc.symm.trans hq'
  obtain ⟨cell, q1, q2, q3, q4⟩ := id hob
  have hap := va_apart (own := M.1.cls) (C := q.1) (T := q.2.1) (N := q.2.2) C.2.2.2.2.2.1 a1 (px_ty c0) a2 a3 C.2.2.2.2.2.2.2.1 hc
  obtain ⟨hS, hfc, kC, hkC, hkind⟩ := C.2.2.2.2.2.2.2.1.1 c0 q hc
  obtain ⟨cf, kf, fi, f, hi, hsl⟩ := hS k0 hk
  have hlay := C.2.2.2.2.2.1 _ (a1 _ (u_in_lay hk))
  unfold u_lay at hlay
  rw [if_pos hf] at hlay
  have hst := (u_facts hfc hkC (u_lays C.2.2.2.2.2.1 a1 hk) hi).1
  have hcf : m.cls = cf := by
    obtain ⟨_, _, c', _, _, _, -, -, hf', -, -, -, hown2, -⟩ := Cond.laysFinal_spec hlay
    have e1 : c' = cf := by have := hi.symm.trans hf'; simp at this; exact this.1.symm
    rw [hde] at hown2
    rw [← e1]; exact Option.some.inj (C.2.2.2.2.1.symm.trans hown2)
  have h6 := u_fits hfc hkC hkind (Or.inr hlay) hi (a2 k0 hk) (hn ad) (hfit ad)
  refine W.putFinK C.1 C.2.1 C.2.2.2.2.1 (C.2.2.2.2.2.1 _ hw) hi hst hcf (C.2.2.2.2.2.2.2.2.2.2.1.trans hM) (by rw [q2]; exact h6) q1 q3 (by rw [hsl]; exact k2_hasslot (q4 k0 hk)) rfl rfl hd fun H1 ez z oq => ?_
  rw [hsl] at ez
  have hS1 : SIM D cy ad h1 H1 := S.1.setO S.2.1 hT a4 hc hk ⟨_, ez, q2, q3, t_set q4 hap hk (px_tr ad v)⟩ oq e1 eo en (ev ad)
  have hJ : ADJ A ad h1.1.length := by rw [e1]; exact S.2.1
  exact k p l e R s m args below meth c D cy ad T0 A H1 _ cells slots lsA C ⟨hS1, hJ, S.2.2.1.put z oq (S.2.1.2 _ (px_len hT)), S.2.2.2.1, S.2.2.2.2.1, S.2.2.2.2.2.1, z.trans S.2.2.2.2.2.2.1, (by rw [e1]; exact S.2.2.2.2.2.2.2.1), fun j hj => by rw [e1, z]; exact S.2.2.2.2.2.2.2.2 j hj⟩ L
theorem ex_putI {M : MD} {pc : Nat} {ls : List (Option PV)} {st : List PV} {h : PH} {B : Nat × Nat} {Q : Option PV → PH → Prop} {x : Int} {i : Nat} {idx : Nat} {q : vw_C} (c0 k0 pc' : Nat) (hd : decode M.2.1 pc = .ok (.putfield idx, 3)) (hp : pc' = pc + 3) (hc : vwCl[c0]? = some q) (hk : k0 < q.2.2) (hw : Cond.fieldLink M.1.cls idx (q.2.1 k0).1 (q.2.1 k0).2.1 (q.2.1 k0).2.2.1 ∈ WS) (hf : (q.2.1 k0).2.2.2 = false) (hy : px_ty c0 k0 = .int) (hO : OB h c0 i) (k : ∀ h1, h1 = px_upI h i k0 x → EX M pc' ls st h1 B Q) : EX M pc ls (vi x :: vr i :: st) h B Q :=
  ex_putV (v := vi x) (h1 := px_upI h i k0 x) pc' hd hp hO hc hk hw hf (fun ad => by rw [hy]; rfl) (fun ad => by rw [hy]; rfl) rfl (fun a ha j => ⟨by simp [px_upI, ha], rfl⟩) (fun j hj => ⟨by simp [px_upI, hj], rfl⟩) (fun ad => by rw [hy]; simp [px_upI, px_V, px_tr]) (k _ rfl)
theorem ex_putZ {M : MD} {pc : Nat} {ls : List (Option PV)} {st : List PV} {h : PH} {B : Nat × Nat} {Q : Option PV → PH → Prop} {x : Int} {i : Nat} {idx : Nat} {q : vw_C} (c0 k0 pc' : Nat) (hd : decode M.2.1 pc = .ok (.putfield idx, 3)) (hp : pc' = pc + 3) (hc : vwCl[c0]? = some q) (hk : k0 < q.2.2) (hw : Cond.fieldLink M.1.cls idx (q.2.1 k0).1 (q.2.1 k0).2.1 (q.2.1 k0).2.2.1 ∈ WS) (hf : (q.2.1 k0).2.2.2 = false) (hy : px_ty c0 k0 = .boolean) (hO : OB h c0 i) (hx : x = 0 ∨ x = 1) (k : ∀ h1, h1 = px_upI h i k0 x → EX M pc' ls st h1 B Q) : EX M pc ls (vi x :: vr i :: st) h B Q :=
  ex_putV (v := vi x) (h1 := px_upI h i k0 x) pc' hd hp hO hc hk hw hf (fun ad => by rw [hy]; rcases hx with rfl | rfl <;> rfl) (fun ad => by rw [hy]; rcases hx with rfl | rfl <;> rfl) rfl (fun a ha j => ⟨by simp [px_upI, ha], rfl⟩) (fun j hj => ⟨by simp [px_upI, hj], rfl⟩) (fun ad => by rw [hy]; simp [px_upI, px_V, px_tr]) (k _ rfl)
theorem ex_putL {M : MD} {pc : Nat} {ls : List (Option PV)} {st : List PV} {h : PH} {B : Nat × Nat} {Q : Option PV → PH → Prop} {x : Int} {i : Nat} {idx : Nat} {q : vw_C} (c0 k0 pc' : Nat) (hd : decode M.2.1 pc = .ok (.putfield idx, 3)) (hp : pc' = pc + 3) (hc : vwCl[c0]? = some q) (hk : k0 < q.2.2) (hw : Cond.fieldLink M.1.cls idx (q.2.1 k0).1 (q.2.1 k0).2.1 (q.2.1 k0).2.2.1 ∈ WS) (hf : (q.2.1 k0).2.2.2 = false) (hy : px_ty c0 k0 = .long) (hO : OB h c0 i) (k : ∀ h1, h1 = px_upI h i k0 x → EX M pc' ls st h1 B Q) : EX M pc ls (vl x :: vr i :: st) h B Q :=
  ex_putV (v := vl x) (h1 := px_upI h i k0 x) pc' hd hp hO hc hk hw hf (fun ad => by rw [hy]; rfl) (fun ad => by rw [hy]; rfl) rfl (fun a ha j => ⟨by simp [px_upI, ha], rfl⟩) (fun j hj => ⟨by simp [px_upI, hj], rfl⟩) (fun ad => by rw [hy]; simp [px_upI, px_V, px_tr]) (k _ rfl)
theorem ex_putR {M : MD} {pc : Nat} {ls : List (Option PV)} {st : List PV} {h : PH} {B : Nat × Nat} {Q : Option PV → PH → Prop} {a : Nat} {i : Nat} {idx : Nat} {q : vw_C} (c0 k0 pc' : Nat) (hd : decode M.2.1 pc = .ok (.putfield idx, 3)) (hp : pc' = pc + 3) (hc : vwCl[c0]? = some q) (hk : k0 < q.2.2) (hw : Cond.fieldLink M.1.cls idx (q.2.1 k0).1 (q.2.1 k0).2.1 (q.2.1 k0).2.2.1 ∈ WS) (hf : (q.2.1 k0).2.2.2 = false) (hy : px_isR (px_ty c0 k0) = true) (hO : OB h c0 i) (k : ∀ h1, h1 = px_upR h i k0 (some a) → EX M pc' ls st h1 B Q) : EX M pc ls (vr a :: vr i :: st) h B Q :=
  ex_putV (v := vr a) (h1 := px_upR h i k0 (some a)) pc' hd hp hO hc hk hw hf (fun ad => by revert hy; cases px_ty c0 k0 <;> intro hy <;> first | rfl | (cases hy)) (fun ad => by revert hy; cases px_ty c0 k0 <;> intro hy <;> first | rfl | (cases hy)) rfl (fun a ha j => ⟨rfl, by simp [px_upR, ha]⟩) (fun j hj => ⟨rfl, by simp [px_upR, hj]⟩) (fun ad => by revert hy; cases px_ty c0 k0 <;> intro hy <;> first | (simp [px_upR, px_V, px_tr]; done) | (cases hy)) (k _ rfl)
theorem ex_putIF {M : MD} {pc : Nat} {ls : List (Option PV)} {st : List PV} {h : PH} {B : Nat × Nat} {Q : Option PV → PH → Prop} {x : Int} {i : Nat} {idx : Nat} {q : vw_C} (c0 k0 pc' : Nat) (hd : decode M.2.1 pc = .ok (.putfield idx, 3)) (hp : pc' = pc + 3) (hc : vwCl[c0]? = some q) (hk : k0 < q.2.2) (hw : Cond.fieldLink M.1.cls idx (q.2.1 k0).1 (q.2.1 k0).2.1 (q.2.1 k0).2.2.1 ∈ WS) (hf : (q.2.1 k0).2.2.2 = true) (hM : M.1.name = "<init>") (hde : (q.2.1 k0).1 = M.1.cls) (hy : px_ty c0 k0 = .int) (hO : OB h c0 i) (k : ∀ h1, h1 = px_upI h i k0 x → EX M pc' ls st h1 B Q) : EX M pc ls (vi x :: vr i :: st) h B Q :=
  ex_putVF (v := vi x) (h1 := px_upI h i k0 x) pc' hd hp hO hc hk hw hf hM hde (fun ad => by rw [hy]; rfl) (fun ad => by rw [hy]; rfl) rfl (fun a ha j => ⟨by simp [px_upI, ha], rfl⟩) (fun j hj => ⟨by simp [px_upI, hj], rfl⟩) (fun ad => by rw [hy]; simp [px_upI, px_V, px_tr]) (k _ rfl)
theorem ex_putZF {M : MD} {pc : Nat} {ls : List (Option PV)} {st : List PV} {h : PH} {B : Nat × Nat} {Q : Option PV → PH → Prop} {x : Int} {i : Nat} {idx : Nat} {q : vw_C} (c0 k0 pc' : Nat) (hd : decode M.2.1 pc = .ok (.putfield idx, 3)) (hp : pc' = pc + 3) (hc : vwCl[c0]? = some q) (hk : k0 < q.2.2) (hw : Cond.fieldLink M.1.cls idx (q.2.1 k0).1 (q.2.1 k0).2.1 (q.2.1 k0).2.2.1 ∈ WS) (hf : (q.2.1 k0).2.2.2 = true) (hM : M.1.name = "<init>") (hde : (q.2.1 k0).1 = M.1.cls) (hy : px_ty c0 k0 = .boolean) (hO : OB h c0 i) (hx : x = 0 ∨ x = 1) (k : ∀ h1, h1 = px_upI h i k0 x → EX M pc' ls st h1 B Q) : EX M pc ls (vi x :: vr i :: st) h B Q :=
  ex_putVF (v := vi x) (h1 := px_upI h i k0 x) pc' hd hp hO hc hk hw hf hM hde (fun ad => by rw [hy]; rcases hx with rfl | rfl <;> rfl) (fun ad => by rw [hy]; rcases hx with rfl | rfl <;> rfl) rfl (fun a ha j => ⟨by simp [px_upI, ha], rfl⟩) (fun j hj => ⟨by simp [px_upI, hj], rfl⟩) (fun ad => by rw [hy]; simp [px_upI, px_V, px_tr]) (k _ rfl)
theorem ex_putLF {M : MD} {pc : Nat} {ls : List (Option PV)} {st : List PV} {h : PH} {B : Nat × Nat} {Q : Option PV → PH → Prop} {x : Int} {i : Nat} {idx : Nat} {q : vw_C} (c0 k0 pc' : Nat) (hd : decode M.2.1 pc = .ok (.putfield idx, 3)) (hp : pc' = pc + 3) (hc : vwCl[c0]? = some q) (hk : k0 < q.2.2) (hw : Cond.fieldLink M.1.cls idx (q.2.1 k0).1 (q.2.1 k0).2.1 (q.2.1 k0).2.2.1 ∈ WS) (hf : (q.2.1 k0).2.2.2 = true) (hM : M.1.name = "<init>") (hde : (q.2.1 k0).1 = M.1.cls) (hy : px_ty c0 k0 = .long) (hO : OB h c0 i) (k : ∀ h1, h1 = px_upI h i k0 x → EX M pc' ls st h1 B Q) : EX M pc ls (vl x :: vr i :: st) h B Q :=
  ex_putVF (v := vl x) (h1 := px_upI h i k0 x) pc' hd hp hO hc hk hw hf hM hde (fun ad => by rw [hy]; rfl) (fun ad => by rw [hy]; rfl) rfl (fun a ha j => ⟨by simp [px_upI, ha], rfl⟩) (fun j hj => ⟨by simp [px_upI, hj], rfl⟩) (fun ad => by rw [hy]; simp [px_upI, px_V, px_tr]) (k _ rfl)
theorem ex_putRF {M : MD} {pc : Nat} {ls : List (Option PV)} {st : List PV} {h : PH} {B : Nat × Nat} {Q : Option PV → PH → Prop} {a : Nat} {i : Nat} {idx : Nat} {q : vw_C} (c0 k0 pc' : Nat) (hd : decode M.2.1 pc = .ok (.putfield idx, 3)) (hp : pc' = pc + 3) (hc : vwCl[c0]? = some q) (hk : k0 < q.2.2) (hw : Cond.fieldLink M.1.cls idx (q.2.1 k0).1 (q.2.1 k0).2.1 (q.2.1 k0).2.2.1 ∈ WS) (hf : (q.2.1 k0).2.2.2 = true) (hM : M.1.name = "<init>") (hde : (q.2.1 k0).1 = M.1.cls) (hy : px_isR (px_ty c0 k0) = true) (hO : OB h c0 i) (k : ∀ h1, h1 = px_upR h i k0 (some a) → EX M pc' ls st h1 B Q) : EX M pc ls (vr a :: vr i :: st) h B Q :=
  ex_putVF (v := vr a) (h1 := px_upR h i k0 (some a)) pc' hd hp hO hc hk hw hf hM hde (fun ad => by revert hy; cases px_ty c0 k0 <;> intro hy <;> first | rfl | (cases hy)) (fun ad => by revert hy; cases px_ty c0 k0 <;> intro hy <;> first | rfl | (cases hy)) rfl (fun a ha j => ⟨rfl, by simp [px_upR, ha]⟩) (fun j hj => ⟨rfl, by simp [px_upR, hj]⟩) (fun ad => by revert hy; cases px_ty c0 k0 <;> intro hy <;> first | (simp [px_upR, px_V, px_tr]; done) | (cases hy)) (k _ rfl)
theorem ex_iald {M : MD} {pc : Nat} {ls : List (Option PV)} {st : List PV} {h : PH} {B : Nat × Nat} {Q : Option PV → PH → Prop} {i : Nat} {j : Int} (pc' : Nat) (hd : decode M.2.1 pc = .ok (.iaload, 1)) (hp : pc' = pc + 1) (hA : AI h 20 i j) (k : EX M pc' ls (vi (h.2.1 i j.toNat) :: st) h B Q) : EX M pc ls (vi j :: vr i :: st) h B Q := by
  subst hp
  intro p l e R s m args below meth c D cy ad T0 A H locs cells slots lsA C S L
  obtain ⟨n, hT, h0, h1, h2⟩ := hA
  have hc := px_arI S.1 hT
  have hin := rng_in h0 h1 h2
  have hl : (Int32.ofInt j).toNatClampNeg < n := Nat.not_le.mp fun q => hin (Or.inr q)
  have hK := C.2.2.2.2.2.2.2.1.2 0 (cy 0, .int) rfl
  refine W.iald (v := .int (Int32.ofInt (h.2.1 i j.toNat))) C.1 C.2.1 hc (hK.1 n _) (fun q => by cases q) (by rw [arrV_size]; exact hin) (by rw [arrV_read _ _ hl, rng_cl h0 h2]) rfl rfl hd (k p l e R s m args below meth c D cy ad T0 A H locs cells slots lsA C S L)
theorem ex_alen {M : MD} {pc : Nat} {ls : List (Option PV)} {st : List PV} {h : PH} {B : Nat × Nat} {Q : Option PV → PH → Prop} {i n : Nat} {n' : Int} (pc' : Nat) (hd : decode M.2.1 pc = .ok (.arraylength, 1)) (hp : pc' = pc + 1) (hT : h.1[i]? = some (20, n)) (hn : n' = (n : Int)) (k : EX M pc' ls (vi n' :: st) h B Q) : EX M pc ls (vr i :: st) h B Q := by
  subst hp
  subst hn
  intro p l e R s m args below meth c D cy ad T0 A H locs cells slots lsA C S L
  have hc := px_arI S.1 hT
  have hK := C.2.2.2.2.2.2.2.1.2 0 (cy 0, .int) rfl
  refine W.alen (n := Int32.ofInt (n : Int)) C.1 C.2.1 hc (hK.1 n _) (by rw [arrV_size, Int32.ofInt_eq_ofNat]) rfl rfl hd (k p l e R s m args below meth c D cy ad T0 A H locs cells slots lsA C S L)
theorem ex_alenR {M : MD} {pc : Nat} {ls : List (Option PV)} {st : List PV} {h : PH} {B : Nat × Nat} {Q : Option PV → PH → Prop} {t i n : Nat} {n' : Int} (pc' : Nat) (hd : decode M.2.1 pc = .ok (.arraylength, 1)) (hp : pc' = pc + 1) (hT : h.1[i]? = some (t, n)) (ht : t = 21 ∨ t = 22 ∨ t = 23) (hn : n' = (n : Int)) (k : EX M pc' ls (vi n' :: st) h B Q) : EX M pc ls (vr i :: st) h B Q := by
  subst hp
  subst hn
  intro p l e R s m args below meth c D cy ad T0 A H locs cells slots lsA C S L
  have hc := px_arR S.1 hT (by omega)
  have hK : ∃ ty, ArrOfT s (cy (t - 20)) ty := by
    rcases ht with rfl | rfl | rfl
    · exact ⟨_, (C.2.2.2.2.2.2.2.1.2 1 (cy 1, .object RX0) rfl).1⟩
    · exact ⟨_, (C.2.2.2.2.2.2.2.1.2 2 (cy 2, .object RX1) rfl).1⟩
    · exact ⟨_, (C.2.2.2.2.2.2.2.1.2 3 (cy 3, .array .int) rfl).1⟩
  obtain ⟨ty, hK⟩ := hK
  refine W.alen (n := Int32.ofInt (n : Int)) C.1 C.2.1 hc (hK n _) (by rw [arrV_size, Int32.ofInt_eq_ofNat]) rfl rfl hd (k p l e R s m args below meth c D cy ad T0 A H locs cells slots lsA C S L)
theorem ex_aald {M : MD} {pc : Nat} {ls : List (Option PV)} {st : List PV} {h : PH} {B : Nat × Nat} {Q : Option PV → PH → Prop} {i a : Nat} {j : Int} (t pc' : Nat) (hd : decode M.2.1 pc = .ok (.aaload, 1)) (hp : pc' = pc + 1) (ht : t = 21 ∨ t = 22 ∨ t = 23) (hA : AI h t i j) (ha : h.2.2 i j.toNat = some a) (k : EX M pc' ls (vr a :: st) h B Q) : EX M pc ls (vi j :: vr i :: st) h B Q := by
  subst hp
  intro p l e R s m args below meth c D cy ad T0 A H locs cells slots lsA C S L
  obtain ⟨n, hT, h0, h1, h2⟩ := hA
  have hc := px_arR S.1 hT (by omega)
  have hin := rng_in h0 h1 h2
  have hl : (Int32.ofInt j).toNatClampNeg < n := Nat.not_le.mp fun q => hin (Or.inr q)
  have hK : ∃ ty : FieldType, ty.isReference = true ∧ ArrOfT s (cy (t - 20)) ty := by
    rcases ht with rfl | rfl | rfl
    · exact ⟨_, rfl, (C.2.2.2.2.2.2.2.1.2 1 (cy 1, .object RX0) rfl).1⟩
    · exact ⟨_, rfl, (C.2.2.2.2.2.2.2.1.2 2 (cy 2, .object RX1) rfl).1⟩
    · exact ⟨_, rfl, (C.2.2.2.2.2.2.2.1.2 3 (cy 3, .array .int) rfl).1⟩
  obtain ⟨ty, hty, hK⟩ := hK
  refine W.aald (v := .ref (ad a)) C.1 C.2.1 hc (hK n _) hty (fun q => by cases q) (by rw [arrV_size]; exact hin) (by rw [arrV_read _ _ hl, rng_cl h0 h2, ha]; rfl) rfl rfl hd (k p l e R s m args below meth c D cy ad T0 A H locs cells slots lsA C S L)
theorem ex_iast {M : MD} {pc : Nat} {ls : List (Option PV)} {st : List PV} {h : PH} {B : Nat × Nat} {Q : Option PV → PH → Prop} {i : Nat} {j x : Int} (pc' : Nat) (hd : decode M.2.1 pc = .ok (.iastore, 1)) (hp : pc' = pc + 1) (hA : AI h 20 i j) (k : ∀ h1, h1 = px_upI h i j.toNat x → EX M pc' ls st h1 B Q) : EX M pc ls (vi x :: vi j :: vr i :: st) h B Q := by
  subst hp
  intro p l e R s m args below meth c D cy ad T0 A H locs cells slots lsA C S L
  obtain ⟨n, hT, h0, h1, h2⟩ := hA
  have hc := px_arI S.1 hT
  have hin := rng_in h0 h1 h2
  have hl : (Int32.ofInt j).toNatClampNeg < n := Nat.not_le.mp fun q => hin (Or.inr q)
  have hK := C.2.2.2.2.2.2.2.1.2 0 (cy 0, .int) rfl
  refine W.iast C.1 C.2.1 hc (hK.1 n _) (fun q => by cases q) (by rw [arrV_size]; exact hin) rfl rfl hd fun H1 ez z oq => ?_
  have hS1 : SIM D cy ad (px_upI h i j.toNat x) H1 := by
    refine S.1.setA S.2.1 (px_len hT) ?_ oq rfl (fun a ha b => ⟨by simp [px_upI, ha], rfl⟩)
    have hT1 : (px_upI h i j.toNat x).1[i]? = some (20, n) := hT
    unfold px_at
    rw [hT1]
    dsimp only
    rw [if_neg (by omega), if_pos rfl, ez, arrV_store, rng_cl h0 h2]
    refine congrArg (fun f => some (arrV (cy 0) n f)) (funext fun q => ?_)
    by_cases hq : q = j.toNat
    · subst hq
      simp [updV, px_upI]
    · simp [updV, px_upI, hq]
  exact k _ rfl p l e R s m args below meth c D cy ad T0 A H1 _ cells slots lsA C ⟨hS1, S.2.1, S.2.2.1.put z oq (S.2.1.2 _ (px_len hT)), S.2.2.2.1, S.2.2.2.2.1, S.2.2.2.2.2.1, z.trans S.2.2.2.2.2.2.1, S.2.2.2.2.2.2.2.1, fun j hj => (S.2.2.2.2.2.2.2.2 j hj).trans (by rw [z])⟩ L
theorem ex_aast {M : MD} {pc : Nat} {ls : List (Option PV)} {st : List PV} {h : PH} {B : Nat × Nat} {Q : Option PV → PH → Prop} {i a c0 : Nat} {j : Int} (t pc' : Nat) (hd : decode M.2.1 pc = .ok (.aastore, 1)) (hp : pc' = pc + 1) (ht : (t = 21 ∧ c0 = 0) ∨ (t = 22 ∧ c0 = 1)) (hA : AI h t i j) (hO : OB h c0 a) (k : ∀ h1, h1 = px_upR h i j.toNat (some a) → EX M pc' ls st h1 B Q) : EX M pc ls (vr a :: vi j :: vr i :: st) h B Q := by
  subst hp
  intro p l e R s m args below meth c D cy ad T0 A H locs cells slots lsA C S L
  obtain ⟨n, hT, h0, h1, h2⟩ := hA
  obtain ⟨n2, hT2⟩ := hO
  have hc := px_arR S.1 hT (by omega)
  have hin := rng_in h0 h1 h2
  have hl : (Int32.ofInt j).toNatClampNeg < n := Nat.not_le.mp fun q => hin (Or.inr q)
  have hlo : ¬ Int32.ofInt j < 0 := fun q => hin (Or.inl q)
  obtain ⟨q, hq, cellV, g1, g2, g3, -⟩ := px_obj S.1 hT2 (by omega)
  have hcls := (C.2.2.2.2.2.2.2.1.1 c0 q hq).2
  have hkk : ∃ (kA : Class) (ty : FieldType), s.vm.classes[cy (t - 20)]? = some kA ∧ kA.kind = .array (D.1 c0) ty ∧ ty.isReference = true := by
    rcases ht with ⟨rfl, rfl⟩ | ⟨rfl, rfl⟩
    · obtain ⟨kA, comp, k1, k2, k3, -⟩ := (C.2.2.2.2.2.2.2.1.2 1 (cy 1, .object RX0) rfl).2
      cases hq
      exact ⟨kA, _, k1, by rw [k2, Option.some.inj (k3.symm.trans hcls.1)], rfl⟩
    · obtain ⟨kA, comp, k1, k2, k3, -⟩ := (C.2.2.2.2.2.2.2.1.2 2 (cy 2, .object RX1) rfl).2
      cases hq
      exact ⟨kA, _, k1, by rw [k2, Option.some.inj (k3.symm.trans hcls.1)], rfl⟩
  obtain ⟨kA, ty, k1, k2, k3⟩ := hkk
  obtain ⟨kC, hkC, -⟩ := hcls.2
  refine W.aast C.1 C.2.1 hc (fun q h => by cases h) (fun h => by cases h) k1 k2 k3 hkC ⟨hlo, by rw [arrV_size]; exact hl⟩ g1 (fun q h => by rw [g3] at h; cases h) (by rw [g2]; exact hkC) (by rw [g2]; exact va_assign hcls) rfl rfl hd fun H1 ez z oq => ?_
  have hS1 : SIM D cy ad (px_upR h i j.toNat (some a)) H1 := by
    refine S.1.setA S.2.1 (px_len hT) ?_ oq rfl (fun a ha b => ⟨rfl, by simp [px_upR, ha]⟩)
    have hT1 : (px_upR h i j.toNat (some a)).1[i]? = some (t, n) := hT
    have a1 : ¬ t < 11 := by omega
    have a2 : ¬ t = 20 := by omega
    unfold px_at
    rw [hT1]
    dsimp only
    rw [if_neg a1, if_neg a2, ez, arrV_store, rng_cl h0 h2]
    refine congrArg (fun f => some (arrV (cy (t - 20)) n f)) (funext fun q => ?_)
    by_cases hq : q = j.toNat
    · subst hq
      simp [updV, px_upR, va_rf]
    · simp [updV, px_upR, hq]
  exact k _ rfl p l e R s m args below meth c D cy ad T0 A H1 _ cells slots lsA C ⟨hS1, S.2.1, S.2.2.1.put z oq (S.2.1.2 _ (px_len hT)), S.2.2.2.1, S.2.2.2.2.1, S.2.2.2.2.2.1, z.trans S.2.2.2.2.2.2.1, S.2.2.2.2.2.2.2.1, fun j hj => (S.2.2.2.2.2.2.2.2 j hj).trans (by rw [z])⟩ L
theorem ex_iret {M : MD} {pc : Nat} {ls : List (Option PV)} {h : PH} {Q : Option PV → PH → Prop} {x : Int} {b : Nat} (hd : decode M.2.1 pc = .ok (.ireturn, 1)) (hr : M.2.2.2.1 = some .int ∨ (M.2.2.2.1 = some .boolean ∧ (x = 0 ∨ x = 1))) (q : Q (some (vi x)) h) : EX M pc ls [vi x] h (0, b) Q := by
  intro p l e R s m args below meth c D cy ad T0 A H locs cells slots lsA C S L
  refine W.widen (k := R.cells) (n := R.slots) (by have := S.2.2.2.2.1; dsimp only at this; omega) (by have := S.2.2.2.2.2.1; dsimp only at this; omega) ?_
  have fin : ∀ t : State, t.heap = H → s.WarmedH t.vm → PQ D cy ad T0 A R.cells Q args s (.returned ((some (vi x)).map (px_tr ad))) t := fun t ht hW => ⟨⟨_, h, rfl, q, by rw [ht]; exact S.1, S.2.1, va_K.moved hW.alike C.2.2.2.2.2.2.2.1, by rw [ht]; have h1 := S.2.2.2.2.1; have h2 := S.2.2.2.2.2.2.1; dsimp only at h1; omega, by have h1 := S.2.2.2.2.1; obtain ⟨r, h2, h3⟩ := S.2.2.2.2.2.2.2.1; dsimp only at h1; exact ⟨r, h2, by omega⟩⟩, S.2.2.1.F ht⟩
  rcases hr with hr | ⟨hr, hx⟩
  · exact W.iret C.1 C.2.1 (by rw [C.2.2.1, hr]) fin S.2.2.1.2.2 hd (hlocks := C.2.2.2.2.2.2.1)
  · exact W.zret C.1 C.2.1 (by rw [C.2.2.1, hr]) (by rcases hx with rfl | rfl <;> rfl) fin S.2.2.1.2.2 hd (hlocks := C.2.2.2.2.2.2.1)
theorem ex_lret {M : MD} {pc : Nat} {ls : List (Option PV)} {h : PH} {Q : Option PV → PH → Prop} {x : Int} {b : Nat} (hd : decode M.2.1 pc = .ok (.lreturn, 1)) (hr : M.2.2.2.1 = some .long) (q : Q (some (vl x)) h) : EX M pc ls [vl x] h (0, b) Q := by
  intro p l e R s m args below meth c D cy ad T0 A H locs cells slots lsA C S L
  refine W.widen (k := R.cells) (n := R.slots) (by have := S.2.2.2.2.1; dsimp only at this; omega) (by have := S.2.2.2.2.2.1; dsimp only at this; omega) ?_
  have fin : ∀ t : State, t.heap = H → s.WarmedH t.vm → PQ D cy ad T0 A R.cells Q args s (.returned ((some (vl x)).map (px_tr ad))) t := fun t ht hW => ⟨⟨_, h, rfl, q, by rw [ht]; exact S.1, S.2.1, va_K.moved hW.alike C.2.2.2.2.2.2.2.1, by rw [ht]; have h1 := S.2.2.2.2.1; have h2 := S.2.2.2.2.2.2.1; dsimp only at h1; omega, by have h1 := S.2.2.2.2.1; obtain ⟨r, h2, h3⟩ := S.2.2.2.2.2.2.2.1; dsimp only at h1; exact ⟨r, h2, by omega⟩⟩, S.2.2.1.F ht⟩
  exact W.lret C.1 C.2.1 (by rw [C.2.2.1, hr]) fin S.2.2.1.2.2 hd (hlocks := C.2.2.2.2.2.2.1)
theorem ex_vret {M : MD} {pc : Nat} {ls : List (Option PV)} {h : PH} {Q : Option PV → PH → Prop} {b : Nat} (hd : decode M.2.1 pc = .ok (.return_, 1)) (hr : M.2.2.2.1 = none) (q : Q none h) : EX M pc ls [] h (0, b) Q := by
  intro p l e R s m args below meth c D cy ad T0 A H locs cells slots lsA C S L
  refine W.widen (k := R.cells) (n := R.slots) (by have := S.2.2.2.2.1; dsimp only at this; omega) (by have := S.2.2.2.2.2.1; dsimp only at this; omega) ?_
  have fin : ∀ t : State, t.heap = H → s.WarmedH t.vm → PQ D cy ad T0 A R.cells Q args s (.returned ((none : Option PV).map (px_tr ad))) t := fun t ht hW => ⟨⟨_, h, rfl, q, by rw [ht]; exact S.1, S.2.1, va_K.moved hW.alike C.2.2.2.2.2.2.2.1, by rw [ht]; have h1 := S.2.2.2.2.1; have h2 := S.2.2.2.2.2.2.1; dsimp only at h1; omega, by have h1 := S.2.2.2.2.1; obtain ⟨r, h2, h3⟩ := S.2.2.2.2.2.2.2.1; dsimp only at h1; exact ⟨r, h2, by omega⟩⟩, S.2.2.1.F ht⟩
  exact W.vret C.1 C.2.1 (by rw [C.2.2.1, hr]) fin S.2.2.1.2.2 hd (hlocks := C.2.2.2.2.2.2.1)
/-- what a callee's words must hold -/
def NV (N : MD) (n : Nat) : Prop := Cond.code N.1 N.2.1 N.2.2.1 N.2.2.2.1 ∈ WS ∧ Cond.initialized N.1.cls ∈ WS ∧ (N.1.cls ≠ "java/lang/invoke/MethodHandle" ∧ N.1.cls ≠ "java/lang/invoke/VarHandle" ∧ (parseMethodDescriptor N.1.desc).map (fun d => d.parameters.length) = some n)
theorem NV.good {N : MD} {n : Nat} (h : NV N n) : GoodIn WS (.code N.1 N.2.1 N.2.2.1 N.2.2.2.1 :: WS) := by
  intro w hw
  have hm : w ∈ WS := by
    rcases List.mem_cons.mp hw with rfl | hw
    · exact h.1
    · exact hw
  exact ⟨hm, good_of_word (WS_good hm)⟩
theorem NV.goodV {N : MD} {n idx : Nat} {own : String} (h : NV N n) (hl : Cond.methodLink own idx N.1 ∈ WS) (hi : Cond.instanceMethod N.1 ∈ WS) (hs : Cond.selects N.1.cls N.1 N.1 ∈ WS) : GoodIn WS (wsV own idx N.1.cls N.1 (.code N.1 N.2.1 N.2.2.1 N.2.2.2.1 :: WS)) := by
  intro w hw
  have hm : w ∈ WS := by
    rcases List.mem_append.mp hw with hw | hw
    · simp only [List.mem_cons, List.not_mem_nil, or_false] at hw
      rcases hw with rfl | rfl | rfl | rfl
      · exact hl
      · exact hi
      · exact hs
      · exact h.2.1
    · exact (h.good w hw).1
  exact ⟨hm, good_of_word (WS_good hm)⟩
theorem NV.goodS {N : MD} {n idx : Nat} {own : String} (h : NV N n) (hl : Cond.methodLink own idx N.1 ∈ WS) (hi : Cond.static N.1 ∈ WS) : GoodIn WS (va_wsS own idx N.1 (.code N.1 N.2.1 N.2.2.1 N.2.2.2.1 :: WS)) := by
  intro w hw
  have hm : w ∈ WS := by
    rcases List.mem_append.mp hw with hw | hw
    · simp only [List.mem_cons, List.not_mem_nil, or_false] at hw
      rcases hw with rfl | rfl | rfl
      · exact hl
      · exact hi
      · exact h.2.1
    · exact (h.good w hw).1
  exact ⟨hm, good_of_word (WS_good hm)⟩
theorem px_gx {p : Program} {R : Room} {s U : State} {m : MethodId} {args : Array Value} {meth : Method} {c : Code} {D : va_G} {cy : Nat → ClassId} {ad : Nat → Nat} {T0 : List (Nat × Nat)} {A : Nat → Prop} {H : Heap} {locs : List Loc} {cells slots : Nat} {h : PH} {B : Nat × Nat} {M : MD} (C : CX p R s m args meth c M D cy A) (S : SX D cy ad h s A H locs R T0 cells slots B) (hW : s.WarmedH U.vm) : GX (px_A ad h.1.length H.size) U H :=
  ((C.2.2.2.2.2.2.2.2.2.2.2.warm hW).kept S.2.2.1.2.1).narrow (fun q hq => by
    rcases hq with ⟨i, hi, rfl⟩ | hq
    · exact S.2.1.2 i hi
    · exact S.2.2.2.1 q (Nat.le_trans S.2.2.1.1 hq))
section CALL
variable {p : Program} {l : Launch} {e : Env} {R : Room} {s : State} {m : MethodId} {args : Array Value} {below : List Frame} {meth : Method} {c : Code} {D : va_G} {cy : Nat → ClassId} {ad : Nat → Nat} {T0 : List (Nat × Nat)} {A : Nat → Prop} {H : Heap} {locs : List Loc} {cells slots : Nat} {lsA : Array Slot} {h : PH} {B1 B2 : Nat × Nat} {st : List PV} {pc : Nat} {ls : List (Option PV)} {M : MD} {Q Qc : Option PV → PH → Prop}
theorem px_call {st0 : List Value} {a : Array Value} (C : CX p R s m args meth c M D cy A) (S : SX D cy ad h s A H locs R T0 cells slots (B1.1 + B2.1, B1.2 + B2.2)) (L : PL ad M.2.2.1 lsA ls)
    (hr : va_Run p l e R s m args below meth c H locs cells slots B1.1 B1.2 (F0 m pc lsA st0) (st.map (px_tr ad)) (PQ D cy ad h.1 (px_A ad h.1.length H.size) B1.1 Qc a) (px_A ad h.1.length H.size))
    (k : ∀ v h1, Qc v h1 → EX M (pc + 3) ls (v.toList ++ st) h1 B2 Q) :
    W p l e R s m args below meth c H locs cells slots (MQ below (PQ D cy ad T0 A R.cells Q) args s R.cells R.slots A) (F0 m pc lsA st0) := by
  intro T hT X
  obtain ⟨v, st₀, t, T', L', h0, X', hL, e1, e2, ⟨⟨pv, h1, ho, hq, hS1, hJ1, hK1, hz1, r1, hr1, hrl1⟩, hz, hk⟩, stp⟩ := hr T hT X
  have hn1 : h1.1.length = h.1.length + B1.1 := by rw [hr1, List.length_append, hrl1]
  obtain ⟨S1, S2, S3, S4, S5, S6, S7, S8, S9⟩ := S
  dsimp only at S5 S6 S9
  rw [h0] at hz hk hz1
  have hAA : ∀ q, px_A ad h.1.length H.size q → A q := by
    intro q hq
    rcases hq with ⟨i, hi, rfl⟩ | hq
    · exact S2.2 i hi
    · exact S4 q (Nat.le_trans S3.1 hq)
  have hv : v = pv.map (px_tr ad) := by cases ho; rfl
  subst hv
  have hst : (pv.map (px_tr ad)).toList ++ st.map (px_tr ad) = (pv.toList ++ st).map (px_tr ad) := by cases pv <;> rfl
  obtain ⟨t2, a1, b1⟩ := k pv h1 hq p l e R s m args below meth c D cy ad T0 A T'.heap (locs ++ L') (cells + B1.1) (slots + B1.2) lsA C
    ⟨by rw [e1]; exact hS1, ⟨hJ1.1, fun i hi => hAA _ (hJ1.2 i hi)⟩, ⟨Nat.le_trans S3.1 (by rw [e1]; exact hz), fun q h1 h2 => by rw [e1, hk q (Nat.lt_of_lt_of_le h1 S3.1) (fun z => h2 (hAA q z))]; exact S3.2.1 q h1 h2, fun q hq => by
      rcases List.mem_append.mp hq with h | h
      · exact S3.2.2 q h
      · exact hAA _ (hL q h)⟩, S4, by omega, by omega, by rw [e1]; omega, (by obtain ⟨r, h2, h3⟩ := S8; exact ⟨r ++ r1, by rw [hr1, h2, List.append_assoc], by rw [List.length_append, h3, hrl1]⟩), fun j hj => by
        have := S9 (B1.1 + j) (by omega)
        rw [e1, hz1, hn1, Nat.add_assoc, this]
        omega⟩ L T' rfl X'
  refine ⟨t2, stp t2 ?_, b1⟩
  rw [hst]
  exact a1
end CALL
theorem px_pre {B1 : Nat × Nat} {h : PH} {D : va_G} {cy : Nat → ClassId} {ad : Nat → Nat} {sz : Nat} {av : List Value} : FrameBlind (va_Pc av (fun U => U.heap.size = sz ∧ SIM D cy ad h U.heap ∧ va_K D vwCl (px_tys cy) U ∧ GX (px_A ad h.1.length sz) U U.heap ∧ ADJ (fun _ => True) ad h.1.length ∧ ∀ j, j < B1.1 → ad (h.1.length + j) = sz + j)) := fun a U g mk q => by
  obtain ⟨q1, q2, q3, q4, q5, q6⟩ := q
  exact ⟨q1, q2, q3, va_K.moved (u := U) (U := U.calling g mk a) (Vm.Alike.refl U.vm) q4, q5.same (U := U.calling g mk a) rfl, q6⟩
theorem ex_callV {M N : MD} {pc : Nat} {ls : List (Option PV)} {st stk : List PV} {h : PH} {B B1 B2 : Nat × Nat} {Q Qc : Option PV → PH → Prop} {idx n : Nat} {b c0 : Nat} {q : vw_C} (av : List PV) (pc' : Nat) (hd : decode M.2.1 pc = .ok (.invokevirtual idx, 3)) (hp : pc' = pc + 3) (hl : Cond.methodLink M.1.cls idx N.1 ∈ WS) (hN : NV N n) (hi : Cond.instanceMethod N.1 ∈ WS) (hs : Cond.selects N.1.cls N.1 N.1 ∈ WS) (hc : vwCl[c0]? = some q) (hcl : q.1 = N.1.cls) (hO : OB h c0 b) (hk : stk = av.reverse ++ vr b :: st) (hn : av.length = n) (hfr : N.2.2.2.2.1 + 1 ≤ M.2.2.2.2.1) (hlc : 8 + (N.2.2.1 + 11) + N.2.2.2.2.2 ≤ M.2.2.2.2.2) (hw : px_sum st ≤ 8) (hB : B = (B1.1 + B2.1, B1.2 + B2.2))
    (hM : MET N (vr b :: av) h B1 Qc) (k : ∀ v h1, Qc v h1 → EX M pc' ls (v.toList ++ st) h1 B2 Q) : EX M pc ls stk h B Q := by
  subst hp
  subst hk
  subst hB
  intro p l e R s m args below meth c D cy ad T0 A H locs cells slots lsA C S L
  obtain ⟨n3, hT3⟩ := hO
  obtain ⟨q', hq', cellV, g1, g2, g3, -⟩ := px_obj S.1 hT3 (cls_ok c0 q hc).2.2.2
  cases hc.symm.trans hq'
  have cellB : ∃ cellB : Cell, H[ad b]? = some cellB ∧ cellB.vm.isStatics = false ∧ s.vm.findClass N.1.cls = some cellB.cls := ⟨cellV, g1, by rw [g3]; rfl, by rw [g2, ← hcl]; exact (C.2.2.2.2.2.2.2.1.1 c0 q hc).2.1⟩
  refine px_call (st := st) (h := h) (B1 := B1) (B2 := B2) C S L (va_runV (As := av.map (px_tr ad)) (rest := st.map (px_tr ad)) ⟨C.1, C.2.1, C.2.2.2.1, C.2.2.2.2.1, C.2.2.2.2.2.1⟩ (hM l D cy ad H.size) (cwV n C.2.2.2.2.2.1 (hN.goodV hl hi hs) rfl rfl rfl ⟨rfl, hN.2.2⟩ ⟨by rw [C.2.2.2.2.2.2.2.2.1]; exact hfr, by rw [C.2.2.2.2.2.2.2.2.2.1]; exact hlc⟩) ⟨px_pre (B1 := B1), cellB, fun U hU hW => ⟨rfl, by rw [hU], by rw [hU]; exact S.1, va_K.moved hW.alike C.2.2.2.2.2.2.2.1, by rw [hU]; exact px_gx C S hW, ⟨S.2.1.1, fun _ _ => trivial⟩, fun j hj => S.2.2.2.2.2.2.2.2 j (by show j < B1.1 + B2.1; omega)⟩⟩ rfl (by rw [List.length_map]; exact hn) L.1 (by simp [px_tr, va_rf]) (lv_room (by rw [px_sum_eq]; exact hw)) hd ⟨by have := S.2.2.2.2.1; dsimp only at this; omega, by have := S.2.2.2.2.2.1; dsimp only at this; omega⟩) k
theorem ex_callS {M N : MD} {pc : Nat} {ls : List (Option PV)} {st stk : List PV} {h : PH} {B B1 B2 : Nat × Nat} {Q Qc : Option PV → PH → Prop} {idx n : Nat}  (av : List PV) (pc' : Nat) (hd : decode M.2.1 pc = .ok (.invokestatic idx, 3)) (hp : pc' = pc + 3) (hl : Cond.methodLink M.1.cls idx N.1 ∈ WS) (hN : NV N n) (hi : Cond.static N.1 ∈ WS) (hk : stk = av.reverse ++ st) (hn : av.length = n) (hfr : N.2.2.2.2.1 + 1 ≤ M.2.2.2.2.1) (hlc : 8 + (N.2.2.1 + 11) + N.2.2.2.2.2 ≤ M.2.2.2.2.2) (hw : px_sum st ≤ 8) (hB : B = (B1.1 + B2.1, B1.2 + B2.2))
    (hM : MET N (av) h B1 Qc) (k : ∀ v h1, Qc v h1 → EX M pc' ls (v.toList ++ st) h1 B2 Q) : EX M pc ls stk h B Q := by
  subst hp
  subst hk
  subst hB
  intro p l e R s m args below meth c D cy ad T0 A H locs cells slots lsA C S L
  refine px_call (st := st) (h := h) (B1 := B1) (B2 := B2) C S L (va_runS (As := av.map (px_tr ad)) (rest := st.map (px_tr ad)) ⟨C.1, C.2.1, C.2.2.2.1, C.2.2.2.2.1, C.2.2.2.2.2.1⟩ (hM l D cy ad H.size) (va_cwS n C.2.2.2.2.2.1 (hN.goodS hl hi) rfl rfl rfl hN.2.2 ⟨by rw [C.2.2.2.2.2.2.2.2.1]; exact hfr, by rw [C.2.2.2.2.2.2.2.2.2.1]; exact hlc⟩) ⟨px_pre (B1 := B1), fun U hU hW => ⟨rfl, by rw [hU], by rw [hU]; exact S.1, va_K.moved hW.alike C.2.2.2.2.2.2.2.1, by rw [hU]; exact px_gx C S hW, ⟨S.2.1.1, fun _ _ => trivial⟩, fun j hj => S.2.2.2.2.2.2.2.2 j (by show j < B1.1 + B2.1; omega)⟩⟩ rfl (by rw [List.length_map]; exact hn) L.1 (by simp [px_tr, va_rf]) (lv_room (by rw [px_sum_eq]; exact hw)) hd ⟨by have := S.2.2.2.2.1; dsimp only at this; omega, by have := S.2.2.2.2.2.1; dsimp only at this; omega⟩) k
theorem ex_callI {M N : MD} {pc : Nat} {ls : List (Option PV)} {st stk : List PV} {h : PH} {B B1 B2 : Nat × Nat} {Q Qc : Option PV → PH → Prop} {idx n : Nat} {b : Nat} (av : List PV) (pc' : Nat) (hd : decode M.2.1 pc = .ok (.invokespecial idx, 3)) (hp : pc' = pc + 3) (hl : Cond.methodLink M.1.cls idx N.1 ∈ WS) (hN : NV N n) (hi : Cond.instanceMethod N.1 ∈ WS) (hy : N.1.name = "<init>") (hr : N.2.2.2.1 = none) (hk : stk = av.reverse ++ vr b :: st) (hn : av.length = n) (hfr : N.2.2.2.2.1 + 1 ≤ M.2.2.2.2.1) (hlc : 8 + (N.2.2.1 + 11) + N.2.2.2.2.2 ≤ M.2.2.2.2.2) (hw : px_sum st ≤ 8) (hB : B = (B1.1 + B2.1, B1.2 + B2.2))
    (hM : MET N (vr b :: av) h B1 Qc) (k : ∀ v h1, Qc v h1 → EX M pc' ls (v.toList ++ st) h1 B2 Q) : EX M pc ls stk h B Q := by
  subst hp
  subst hk
  subst hB
  intro p l e R s m args below meth c D cy ad T0 A H locs cells slots lsA C S L
  refine px_call (st := st) (h := h) (B1 := B1) (B2 := B2) C S L (va_runI (As := av.map (px_tr ad)) (rest := st.map (px_tr ad)) ⟨C.1, C.2.1, C.2.2.2.1, C.2.2.2.2.1, C.2.2.2.2.2.1⟩ (hM l D cy ad H.size) (cwI n C.2.2.2.2.2.1 hN.good (by rw [hr]) rfl rfl (C.2.2.2.2.2.1 _ hN.2.1) (C.2.2.2.2.2.1 _ hl) (C.2.2.2.2.2.1 _ hi) hy hN.2.2 ⟨by rw [C.2.2.2.2.2.2.2.2.1]; exact hfr, by rw [C.2.2.2.2.2.2.2.2.2.1]; exact hlc⟩) ⟨px_pre (B1 := B1), fun U hU hW => ⟨rfl, by rw [hU], by rw [hU]; exact S.1, va_K.moved hW.alike C.2.2.2.2.2.2.2.1, by rw [hU]; exact px_gx C S hW, ⟨S.2.1.1, fun _ _ => trivial⟩, fun j hj => S.2.2.2.2.2.2.2.2 j (by show j < B1.1 + B2.1; omega)⟩⟩ rfl (by rw [List.length_map]; exact hn) L.1 (by simp [px_tr, va_rf]) (lv_room (by rw [px_sum_eq]; exact hw)) hd ⟨by have := S.2.2.2.2.1; dsimp only at this; omega, by have := S.2.2.2.2.2.1; dsimp only at this; omega⟩) k
theorem ex_callSN {M N : MD} {pc : Nat} {ls : List (Option PV)} {st stk : List PV} {h : PH} {B B1 B2 : Nat × Nat} {Q Qc : Option PV → PH → Prop} {idx n : Nat}  (av : List PV) (pc' : Nat) (hd : decode M.2.1 pc = .ok (.invokestatic idx, 3)) (hp : pc' = pc + 3) (hl : (M.1.cls, idx, N.1) ∈ nestL) (hN : NV N n) (hi : Cond.static N.1 ∈ WS) (hk : stk = av.reverse ++ st) (hn : av.length = n) (hfr : N.2.2.2.2.1 + 1 ≤ M.2.2.2.2.1) (hlc : 8 + (N.2.2.1 + 11) + N.2.2.2.2.2 ≤ M.2.2.2.2.2) (hw : px_sum st ≤ 8) (hB : B = (B1.1 + B2.1, B1.2 + B2.2))
    (hM : MET N (av) h B1 Qc) (k : ∀ v h1, Qc v h1 → EX M pc' ls (v.toList ++ st) h1 B2 Q) : EX M pc ls stk h B Q := by
  subst hp
  subst hk
  subst hB
  intro p l e R s m args below meth c D cy ad T0 A H locs cells slots lsA C S L
  refine px_call (st := st) (h := h) (B1 := B1) (B2 := B2) C S L (va_runSN (As := av.map (px_tr ad)) (rest := st.map (px_tr ad)) ⟨C.1, C.2.1, C.2.2.2.1, C.2.2.2.2.1, C.2.2.2.2.2.1⟩ (hM l D cy ad H.size) ⟨va_cnB n C.2.2.2.2.2.1 hN.good rfl rfl rfl (C.2.2.2.2.2.2.2.2.2.2.2.2.2.2.2.2.2 _ hl) (C.2.2.2.2.2.1 _ hN.2.1) hN.2.2 ⟨by rw [C.2.2.2.2.2.2.2.2.1]; exact hfr, by rw [C.2.2.2.2.2.2.2.2.2.1]; exact hlc⟩, C.2.2.2.2.2.1 _ hi, trivial⟩ ⟨px_pre (B1 := B1), fun U hU hW => ⟨rfl, by rw [hU], by rw [hU]; exact S.1, va_K.moved hW.alike C.2.2.2.2.2.2.2.1, by rw [hU]; exact px_gx C S hW, ⟨S.2.1.1, fun _ _ => trivial⟩, fun j hj => S.2.2.2.2.2.2.2.2 j (by show j < B1.1 + B2.1; omega)⟩⟩ rfl (by rw [List.length_map]; exact hn) L.1 (by simp [px_tr, va_rf]) (lv_room (by rw [px_sum_eq]; exact hw)) hd ⟨by have := S.2.2.2.2.1; dsimp only at this; omega, by have := S.2.2.2.2.2.1; dsimp only at this; omega⟩) k
theorem ex_callIN {M N : MD} {pc : Nat} {ls : List (Option PV)} {st stk : List PV} {h : PH} {B B1 B2 : Nat × Nat} {Q Qc : Option PV → PH → Prop} {idx n : Nat} {b : Nat} (av : List PV) (pc' : Nat) (hd : decode M.2.1 pc = .ok (.invokespecial idx, 3)) (hp : pc' = pc + 3) (hl : (M.1.cls, idx, N.1) ∈ nestL) (hN : NV N n) (hi : Cond.instanceMethod N.1 ∈ WS) (hy : N.1.name = "<init>") (hr : N.2.2.2.1 = none) (hk : stk = av.reverse ++ vr b :: st) (hn : av.length = n) (hfr : N.2.2.2.2.1 + 1 ≤ M.2.2.2.2.1) (hlc : 8 + (N.2.2.1 + 11) + N.2.2.2.2.2 ≤ M.2.2.2.2.2) (hw : px_sum st ≤ 8) (hB : B = (B1.1 + B2.1, B1.2 + B2.2))
    (hM : MET N (vr b :: av) h B1 Qc) (k : ∀ v h1, Qc v h1 → EX M pc' ls (v.toList ++ st) h1 B2 Q) : EX M pc ls stk h B Q := by
  subst hp
  subst hk
  subst hB
  intro p l e R s m args below meth c D cy ad T0 A H locs cells slots lsA C S L
  refine px_call (st := st) (h := h) (B1 := B1) (B2 := B2) C S L (va_runIN (As := av.map (px_tr ad)) (rest := st.map (px_tr ad)) ⟨C.1, C.2.1, C.2.2.2.1, C.2.2.2.2.1, C.2.2.2.2.2.1⟩ (hM l D cy ad H.size) ⟨va_cnB n C.2.2.2.2.2.1 hN.good (by rw [hr]) rfl rfl (C.2.2.2.2.2.2.2.2.2.2.2.2.2.2.2.2.2 _ hl) (C.2.2.2.2.2.1 _ hN.2.1) hN.2.2 ⟨by rw [C.2.2.2.2.2.2.2.2.1]; exact hfr, by rw [C.2.2.2.2.2.2.2.2.2.1]; exact hlc⟩, hy, C.2.2.2.2.2.1 _ hi⟩ ⟨px_pre (B1 := B1), fun U hU hW => ⟨rfl, by rw [hU], by rw [hU]; exact S.1, va_K.moved hW.alike C.2.2.2.2.2.2.2.1, by rw [hU]; exact px_gx C S hW, ⟨S.2.1.1, fun _ _ => trivial⟩, fun j hj => S.2.2.2.2.2.2.2.2 j (by show j < B1.1 + B2.1; omega)⟩⟩ rfl (by rw [List.length_map]; exact hn) L.1 (by simp [px_tr, va_rf]) (lv_room (by rw [px_sum_eq]; exact hw)) hd ⟨by have := S.2.2.2.2.1; dsimp only at this; omega, by have := S.2.2.2.2.2.1; dsimp only at this; omega⟩) k
theorem ex_callVi {M N : MD} {pc : Nat} {ls : List (Option PV)} {st stk : List PV} {h : PH} {B : Nat × Nat} {Q : Option PV → PH → Prop} {idx n : Nat} {b c0 : Nat} {q : vw_C} {P : Int → PH → Prop} (av : List PV) (pc' : Nat) (hd : decode M.2.1 pc = .ok (.invokevirtual idx, 3)) (hp : pc' = pc + 3) (hl : Cond.methodLink M.1.cls idx N.1 ∈ WS) (hN : NV N n ∧ Cond.instanceMethod N.1 ∈ WS ∧ Cond.selects N.1.cls N.1 N.1 ∈ WS) (hc : vwCl[c0]? = some q) (hcl : q.1 = N.1.cls) (hk : stk = av.reverse ++ vr b :: st) (hn : av.length = n) (hfr : N.2.2.2.2.1 + 1 ≤ M.2.2.2.2.1 ∧ 8 + (N.2.2.1 + 11) + N.2.2.2.2.2 ≤ M.2.2.2.2.2) (hw : px_sum st ≤ 8) (hO : OB h c0 b)
    (hM : METi N (vr b :: av) h P) (k : ∀ x h1, P x h1 → EX M pc' ls (vi x :: st) h1 B Q) : EX M pc ls stk h B Q :=
  ex_callV (B1 := (0, 0)) (B2 := B) av pc' hd hp hl hN.1 hN.2.1 hN.2.2 hc hcl hO hk hn hfr.1 hfr.2 hw (by simp) hM (fun v h1 hq => by obtain ⟨x, rfl, hq⟩ := hq; exact k x h1 hq)
theorem ex_callSi {M N : MD} {pc : Nat} {ls : List (Option PV)} {st stk : List PV} {h : PH} {B : Nat × Nat} {Q : Option PV → PH → Prop} {idx n : Nat} {P : Int → PH → Prop} (av : List PV) (pc' : Nat) (hd : decode M.2.1 pc = .ok (.invokestatic idx, 3)) (hp : pc' = pc + 3) (hl : Cond.methodLink M.1.cls idx N.1 ∈ WS) (hN : NV N n ∧ Cond.static N.1 ∈ WS) (hk : stk = av.reverse ++ st) (hn : av.length = n) (hfr : N.2.2.2.2.1 + 1 ≤ M.2.2.2.2.1 ∧ 8 + (N.2.2.1 + 11) + N.2.2.2.2.2 ≤ M.2.2.2.2.2) (hw : px_sum st ≤ 8)
    (hM : METi N (av) h P) (k : ∀ x h1, P x h1 → EX M pc' ls (vi x :: st) h1 B Q) : EX M pc ls stk h B Q :=
  ex_callS (B1 := (0, 0)) (B2 := B) av pc' hd hp hl hN.1 hN.2 hk hn hfr.1 hfr.2 hw (by simp) hM (fun v h1 hq => by obtain ⟨x, rfl, hq⟩ := hq; exact k x h1 hq)
theorem ex_callVl {M N : MD} {pc : Nat} {ls : List (Option PV)} {st stk : List PV} {h : PH} {B : Nat × Nat} {Q : Option PV → PH → Prop} {idx n : Nat} {b c0 : Nat} {q : vw_C} {P : Int → PH → Prop} (av : List PV) (pc' : Nat) (hd : decode M.2.1 pc = .ok (.invokevirtual idx, 3)) (hp : pc' = pc + 3) (hl : Cond.methodLink M.1.cls idx N.1 ∈ WS) (hN : NV N n ∧ Cond.instanceMethod N.1 ∈ WS ∧ Cond.selects N.1.cls N.1 N.1 ∈ WS) (hc : vwCl[c0]? = some q) (hcl : q.1 = N.1.cls) (hk : stk = av.reverse ++ vr b :: st) (hn : av.length = n) (hfr : N.2.2.2.2.1 + 1 ≤ M.2.2.2.2.1 ∧ 8 + (N.2.2.1 + 11) + N.2.2.2.2.2 ≤ M.2.2.2.2.2) (hw : px_sum st ≤ 8) (hO : OB h c0 b)
    (hM : METl N (vr b :: av) h P) (k : ∀ x h1, P x h1 → EX M pc' ls (vl x :: st) h1 B Q) : EX M pc ls stk h B Q :=
  ex_callV (B1 := (0, 0)) (B2 := B) av pc' hd hp hl hN.1 hN.2.1 hN.2.2 hc hcl hO hk hn hfr.1 hfr.2 hw (by simp) hM (fun v h1 hq => by obtain ⟨x, rfl, hq⟩ := hq; exact k x h1 hq)
theorem ex_callSl {M N : MD} {pc : Nat} {ls : List (Option PV)} {st stk : List PV} {h : PH} {B : Nat × Nat} {Q : Option PV → PH → Prop} {idx n : Nat} {P : Int → PH → Prop} (av : List PV) (pc' : Nat) (hd : decode M.2.1 pc = .ok (.invokestatic idx, 3)) (hp : pc' = pc + 3) (hl : Cond.methodLink M.1.cls idx N.1 ∈ WS) (hN : NV N n ∧ Cond.static N.1 ∈ WS) (hk : stk = av.reverse ++ st) (hn : av.length = n) (hfr : N.2.2.2.2.1 + 1 ≤ M.2.2.2.2.1 ∧ 8 + (N.2.2.1 + 11) + N.2.2.2.2.2 ≤ M.2.2.2.2.2) (hw : px_sum st ≤ 8)
    (hM : METl N (av) h P) (k : ∀ x h1, P x h1 → EX M pc' ls (vl x :: st) h1 B Q) : EX M pc ls stk h B Q :=
  ex_callS (B1 := (0, 0)) (B2 := B) av pc' hd hp hl hN.1 hN.2 hk hn hfr.1 hfr.2 hw (by simp) hM (fun v h1 hq => by obtain ⟨x, rfl, hq⟩ := hq; exact k x h1 hq)
theorem ex_callVv {M N : MD} {pc : Nat} {ls : List (Option PV)} {st stk : List PV} {h : PH} {B : Nat × Nat} {Q : Option PV → PH → Prop} {idx n : Nat} {b c0 : Nat} {q : vw_C} {P : PH → Prop} (av : List PV) (pc' : Nat) (hd : decode M.2.1 pc = .ok (.invokevirtual idx, 3)) (hp : pc' = pc + 3) (hl : Cond.methodLink M.1.cls idx N.1 ∈ WS) (hN : NV N n ∧ Cond.instanceMethod N.1 ∈ WS ∧ Cond.selects N.1.cls N.1 N.1 ∈ WS) (hc : vwCl[c0]? = some q) (hcl : q.1 = N.1.cls) (hk : stk = av.reverse ++ vr b :: st) (hn : av.length = n) (hfr : N.2.2.2.2.1 + 1 ≤ M.2.2.2.2.1 ∧ 8 + (N.2.2.1 + 11) + N.2.2.2.2.2 ≤ M.2.2.2.2.2) (hw : px_sum st ≤ 8) (hO : OB h c0 b)
    (hM : METv N (vr b :: av) h (0, 0) P) (k : ∀ h1, P h1 → EX M pc' ls st h1 B Q) : EX M pc ls stk h B Q :=
  ex_callV (B1 := (0, 0)) (B2 := B) av pc' hd hp hl hN.1 hN.2.1 hN.2.2 hc hcl hO hk hn hfr.1 hfr.2 hw (by simp) hM (fun v h1 hq => by obtain ⟨rfl, hq⟩ := hq; exact k h1 hq)
theorem ex_callSv {M N : MD} {pc : Nat} {ls : List (Option PV)} {st stk : List PV} {h : PH} {B : Nat × Nat} {Q : Option PV → PH → Prop} {idx n : Nat} {P : PH → Prop} (av : List PV) (pc' : Nat) (hd : decode M.2.1 pc = .ok (.invokestatic idx, 3)) (hp : pc' = pc + 3) (hl : Cond.methodLink M.1.cls idx N.1 ∈ WS) (hN : NV N n ∧ Cond.static N.1 ∈ WS) (hk : stk = av.reverse ++ st) (hn : av.length = n) (hfr : N.2.2.2.2.1 + 1 ≤ M.2.2.2.2.1 ∧ 8 + (N.2.2.1 + 11) + N.2.2.2.2.2 ≤ M.2.2.2.2.2) (hw : px_sum st ≤ 8)
    (hM : METv N (av) h (0, 0) P) (k : ∀ h1, P h1 → EX M pc' ls st h1 B Q) : EX M pc ls stk h B Q :=
  ex_callS (B1 := (0, 0)) (B2 := B) av pc' hd hp hl hN.1 hN.2 hk hn hfr.1 hfr.2 hw (by simp) hM (fun v h1 hq => by obtain ⟨rfl, hq⟩ := hq; exact k h1 hq)
end
section
/-! ROWS: what is made -/
theorem ex_objInit {M : MD} {pc : Nat} {ls : List (Option PV)} {st : List PV} {h : PH} {B : Nat × Nat} {Q : Option PV → PH → Prop} {i idx : Nat} (pc' : Nat) (hd : decode M.2.1 pc = .ok (.invokespecial idx, 3)) (hp : pc' = pc + 3) (hl : Cond.methodLink M.1.cls idx Lib.objectInit ∈ WS) (hi : Cond.instanceMethod Lib.objectInit ∈ WS) (hc : Cond.code Lib.objectInit ⟨#[0xb1]⟩ 1 none ∈ WS) (hfr : 1 ≤ M.2.2.2.2.1) (hlo : px_sum st + 12 ≤ M.2.2.2.2.2) (k : EX M pc' ls st h B Q) : EX M pc ls (vr i :: st) h B Q := by
  subst hp
  intro p l e R s m args below meth c D cy ad T0 A H locs cells slots lsA C S L
  refine W.objInit C.1 C.2.1 C.2.2.2.2.1 (C.2.2.2.2.2.1 _ hl) (C.2.2.2.2.2.1 _ hi) (C.2.2.2.2.2.1 _ hc) rfl (by rw [C.2.2.2.1]; exact L.1) rfl hd (by rw [C.2.2.2.2.2.2.2.2.1]; exact hfr) (by rw [C.2.2.2.2.2.2.2.2.2.1, px_sum_eq]; show 2 * 0 + _ + 12 ≤ _; omega) (k p l e R s m args below meth c D cy ad T0 A H locs cells slots lsA C S L)
section NEW
variable {s : State} {D : va_G} {cy : Nat → ClassId} {ad : Nat → Nat} {T0 : List (Nat × Nat)} {A : Nat → Prop} {H H1 : Heap} {locs : List Loc} {cells slots : Nat} {h : PH} {R : Room} {B : Nat × Nat}
theorem px_newS {t n sl : Nat} (S : SX D cy ad h s A H locs R T0 cells slots (B.1 + 1, B.2 + sl)) (hz : H1.size = H.size + 1) (hk : ∀ q, q < H.size → H1[q]? = H[q]?) (hn : px_at D cy ad (px_new h t n) H1 h.1.length) : SX D cy ad (px_new h t n) s A H1 locs R T0 (cells + 1) (slots + sl) B := by
  obtain ⟨S1, S2, S3, S4, S5, S6, S7, S8, S9⟩ := S
  dsimp only at S5 S6 S9
  have hlen : (px_new h t n).1.length = h.1.length + 1 := by simp [px_new]
  have had : ad h.1.length = H.size := by have := S9 0 (by omega); simpa using this
  refine ⟨fun i => ?_, ⟨fun i j hi hj e => ?_, fun i hi => ?_⟩, ⟨by have := S3.1; omega, fun q h1 h2 => by rw [hk q (Nat.lt_of_lt_of_le h1 S3.1)]; exact S3.2.1 q h1 h2, S3.2.2⟩, S4, by omega, by omega, by omega, (by obtain ⟨r, h2, h3⟩ := S8; exact ⟨r ++ [(t, n)], by simp [px_new, h2], by simp [h3]⟩), fun j hj => ?_⟩
  · by_cases hi : i = h.1.length
    · subst hi; exact hn
    · by_cases hl : i < h.1.length
      · exact px_kept (S1 i) (by show (h.1 ++ [(t, n)])[i]? = _; rw [List.getElem?_append_left hl]) (fun k => by simp [px_new, hi]) (fun k => by simp [px_new, hi]) (fun _ => hk _ (px_lt S1 hl))
      · unfold px_at
        have : (px_new h t n).1[i]? = none := List.getElem?_eq_none (by rw [hlen]; omega)
        rw [this]
        trivial
  · rw [hlen] at hi hj
    by_cases h1 : i < h.1.length
    · by_cases h2 : j < h.1.length
      · exact S2.1 i j h1 h2 e
      · have hj' : j = h.1.length := by omega
        subst hj'
        have := px_lt S1 h1
        omega
    · have hi' : i = h.1.length := by omega
      subst hi'
      by_cases h2 : j < h.1.length
      · have := px_lt S1 h2
        omega
      · omega
  · rw [hlen] at hi
    by_cases h1 : i < h.1.length
    · exact S2.2 i h1
    · have hi' : i = h.1.length := by omega
      subst hi'
      rw [had]
      exact S4 _ S3.1
  · have := S9 (j + 1) (by omega)
    rw [hlen, hz]
    rw [show h.1.length + 1 + j = h.1.length + (j + 1) by omega, this]
    omega
end NEW
theorem px_dflt (ty : FieldType) (ad : Nat → Nat) (h1 : ty ≠ .float) (h2 : ty ≠ .double) : defaultValue ty = px_V ty ad 0 none := by
  cases ty <;> first | rfl | exact absurd rfl h1 | exact absurd rfl h2
def px_noF (c n : Nat) : Bool := (List.range n).all fun k => match px_ty c k with
  | .float => false
  | .double => false
  | _ => true
theorem px_noF_spec {c n k : Nat} (h : px_noF c n = true) (hk : k < n) : px_ty c k ≠ .float ∧ px_ty c k ≠ .double := by
  have h1 := List.all_eq_true.mp h k (List.mem_range.mpr hk)
  revert h1
  cases px_ty c k <;> intro h1 <;> first | (cases h1; done) | (constructor <;> (intro e; cases e))
theorem ex_new {M : MD} {pc : Nat} {ls : List (Option PV)} {st : List PV} {h : PH} {B : Nat × Nat} {Q : Option PV → PH → Prop} {idx : Nat} {q : vw_C} (c0 pc' : Nat) (B' : Nat × Nat) (hd : decode M.2.1 pc = .ok (.new idx, 3)) (hp : pc' = pc + 3) (hc : vwCl[c0]? = some q) (hcl : Cond.classLink M.1.cls idx q.1 ∈ WS) (hin : Cond.instantiable q.1 q.2.2 ∈ WS) (hini : Cond.initialized q.1 ∈ WS) (hF : px_noF c0 q.2.2 = true) (hB : B = (B'.1 + 1, B'.2 + q.2.2)) (k : ∀ h1, h1 = px_new h c0 q.2.2 → EX M pc' ls (vr h.1.length :: st) h1 B' Q) : EX M pc ls st h B Q := by
  subst hp
  subst hB
  intro p l e R s m args below meth c D cy ad T0 A H locs cells slots lsA C S L
  obtain ⟨a1, a2, a3, a4⟩ := cls_ok c0 q hc
  have hKn := C.2.2.2.2.2.2.2.1.1 c0 q hc
  have had : ad h.1.length = H.size := by have := S.2.2.2.2.2.2.2.2 0 (by show 0 < B'.1 + 1; omega); simpa using this
  refine W.newcK C.1 C.2.1 C.2.2.2.2.1 (C.2.2.2.2.2.1 _ hcl) (C.2.2.2.2.2.1 _ hin) (C.2.2.2.2.2.1 _ hini) rfl hd (by have := S.2.2.2.2.1; dsimp only at this; omega) (by have := S.2.2.2.2.2.1; dsimp only at this; omega) hKn.2.1 rfl fun H1 kC hkC ez z oq => ?_
  have hn : px_at D cy ad (px_new h c0 q.2.2) H1 h.1.length := by
    unfold px_at
    have hT : (px_new h c0 q.2.2).1[h.1.length]? = some (c0, q.2.2) := by simp [px_new]
    rw [hT]
    dsimp only
    rw [if_pos a4]
    refine ⟨q, hc, ?_⟩
    rw [had]
    refine (u_born (px_ty c0) C.2.2.2.2.2.1 a1 hKn hkC ez a2).to (fun k hk => ?_)
    obtain ⟨f1, f2⟩ := px_noF_spec hF hk
    simp only [px_new, if_true]
    exact px_dflt _ ad f1 f2
  have k := k _ rfl p l e R s m args below meth c D cy ad T0 A H1 locs (cells + 1) (slots + q.2.2) lsA C (px_newS S z oq hn) L
  rw [List.map_cons, show px_tr ad (vr h.1.length) = .ref H.size by simp [px_tr, va_rf, had]] at k
  exact k
theorem px_int_cy {s : State} {D : va_G} {cy : Nat → ClassId} {cA : ClassId} (hK : va_K D vwCl (px_tys cy) s) (h : s.vm.findClass ("[" ++ (FieldType.int).toString) = some cA) : cA = cy 0 := Option.some.inj (h.symm.trans (hK.2 0 (cy 0, .int) rfl).2)
theorem ex_newa {M : MD} {pc : Nat} {ls : List (Option PV)} {st : List PV} {h : PH} {B : Nat × Nat} {Q : Option PV → PH → Prop} {n : Int} {N : Nat} (pc' : Nat) (B' : Nat × Nat) (hd : decode M.2.1 pc = .ok (.newarray .int, 2)) (hp : pc' = pc + 2) (ha : Cond.arrayClass .int ∈ WS) (hN : n = (N : Int)) (hb : N ≤ 100000) (hB : B = (B'.1 + 1, B'.2 + N)) (k : ∀ h1, h1 = px_new h 20 N → EX M pc' ls (vr h.1.length :: st) h1 B' Q) : EX M pc ls (vi n :: st) h B Q := by
  subst hp
  subst hB
  subst hN
  intro p l e R s m args below meth c D cy ad T0 A H locs cells slots lsA C S L
  have had : ad h.1.length = H.size := by have := S.2.2.2.2.2.2.2.2 0 (by show 0 < B'.1 + 1; omega); simpa using this
  have hr : rng (N : Int) := ⟨by omega, by omega⟩
  have hcl : (Int32.ofInt (N : Int)).toNatClampNeg = N := rng_cl (by omega) (by omega)
  refine va_newaK (atype := .int) C.1 C.2.1 (C.2.2.2.2.2.1 _ ha) rfl hd rfl (fun z => by have := (rng_lt hr rng_0).mp z; omega) hcl (by show N * 4 ≤ _; omega) (by have := S.2.2.2.2.1; dsimp only at this; omega) (by have := S.2.2.2.2.2.1; dsimp only at this; omega) rfl fun H1 cA e1 z o1 hAr hNm => ?_
  have hcy := px_int_cy C.2.2.2.2.2.2.2.1 hNm
  subst hcy
  have hn : px_at D cy ad (px_new h 20 N) H1 h.1.length := by
    unfold px_at
    have hT : (px_new h 20 N).1[h.1.length]? = some (20, N) := by simp [px_new]
    rw [hT]
    dsimp only
    rw [if_neg (by omega), if_pos rfl, had, e1]
    simp only [px_new, if_true]
    rfl
  have k := k _ rfl p l e R s m args below meth c D cy ad T0 A H1 locs (cells + 1) (slots + N) lsA C (px_newS S z o1 hn) L
  rw [List.map_cons, show px_tr ad (vr h.1.length) = .ref H.size by simp [px_tr, va_rf, had]] at k
  exact k
theorem ex_anew {M : MD} {pc : Nat} {ls : List (Option PV)} {st : List PV} {h : PH} {B : Nat × Nat} {Q : Option PV → PH → Prop} {n : Int} {N idx c0 : Nat} {q : vw_C} (t pc' : Nat) (B' : Nat × Nat) (hd : decode M.2.1 pc = .ok (.anewarray idx, 3)) (hp : pc' = pc + 3) (ht : (t = 21 ∧ c0 = 0) ∨ (t = 22 ∧ c0 = 1)) (hc : vwCl[c0]? = some q) (hcl : Cond.classLink M.1.cls idx q.1 ∈ WS) (hN : n = (N : Int)) (hb : N ≤ 100000) (hB : B = (B'.1 + 1, B'.2 + N)) (k : ∀ h1, h1 = px_new h t N → EX M pc' ls (vr h.1.length :: st) h1 B' Q) : EX M pc ls (vi n :: st) h B Q := by
  subst hp
  subst hB
  subst hN
  intro p l e R s m args below meth c D cy ad T0 A H locs cells slots lsA C S L
  have had : ad h.1.length = H.size := by have := S.2.2.2.2.2.2.2.2 0 (by show 0 < B'.1 + 1; omega); simpa using this
  have hr : rng (N : Int) := ⟨by omega, by omega⟩
  have hcln : (Int32.ofInt (N : Int)).toNatClampNeg = N := rng_cl (by omega) (by omega)
  have hao : va_AO q.1 s := by
    rcases ht with ⟨rfl, rfl⟩ | ⟨rfl, rfl⟩
    · cases hc; exact C.2.2.2.2.2.2.2.2.2.2.2.2.2.2.1
    · cases hc; exact C.2.2.2.2.2.2.2.2.2.2.2.2.2.2.2.1
  refine W.anew C.1 C.2.1 C.2.2.2.2.1 (C.2.2.2.2.2.1 _ hcl) (va_AO.use hao) rfl hd rfl (fun z => by have := (rng_lt hr rng_0).mp z; omega) (by rw [hcln]; omega) (by have := S.2.2.2.2.1; dsimp only at this; omega) (by rw [hcln]; have := S.2.2.2.2.2.1; dsimp only at this; omega) fun cA kA comp f1 f2 f3 f4 => ?_
  rw [hcln]
  have hcy : cA = cy (t - 20) := by
    rcases ht with ⟨rfl, rfl⟩ | ⟨rfl, rfl⟩
    · cases hc
      obtain ⟨kB, comp', k1, k2, k3, k4⟩ := (C.2.2.2.2.2.2.2.1.2 1 (cy 1, .object RX0) rfl).2
      exact Option.some.inj (f1.symm.trans k4)
    · cases hc
      obtain ⟨kB, comp', k1, k2, k3, k4⟩ := (C.2.2.2.2.2.2.2.1.2 2 (cy 2, .object RX1) rfl).2
      exact Option.some.inj (f1.symm.trans k4)
  have z : (H.push ({ cls := cA, slots := Array.replicate N .null, vm := .none } : Cell)).size = H.size + 1 := Array.size_push _
  have o1 : ∀ q, q < H.size → (H.push ({ cls := cA, slots := Array.replicate N .null, vm := .none } : Cell))[q]? = H[q]? := fun q hq => by rw [Array.getElem?_push, if_neg (Nat.ne_of_lt hq)]
  have e1 : (H.push ({ cls := cA, slots := Array.replicate N .null, vm := .none } : Cell))[H.size]? = some (arrV cA N (fun _ => .null)) := by rw [Array.getElem?_push_size, ← arrV_new]
  revert z o1 e1
  generalize H.push ({ cls := cA, slots := Array.replicate N .null, vm := .none } : Cell) = H1
  intro z o1 e1
  have hn : px_at D cy ad (px_new h t N) H1 h.1.length := by
    unfold px_at
    have hT : (px_new h t N).1[h.1.length]? = some (t, N) := by simp [px_new]
    rw [hT]
    dsimp only
    rw [if_neg (by omega), if_neg (by omega), had, e1, hcy]
    simp only [px_new, if_true]
    rfl
  have k := k _ rfl p l e R s m args below meth c D cy ad T0 A H1 locs (cells + 1) (slots + N) lsA C (px_newS S z o1 hn) L
  rw [List.map_cons, show px_tr ad (vr h.1.length) = .ref H.size by simp [px_tr, va_rf, had]] at k
  exact k
theorem px_outer (c : ClassId) (N h0 : Nat) : ∀ i : Nat, Jvm.Free.Multi.outerC c N h0 i = arrV c N (fun j => va_rf (if j < i then some (h0 + 1 + j) else none)) := by
  intro i
  induction i with
  | zero =>
    show ({ cls := c, slots := Array.replicate N .null, vm := .none } : Cell) = _
    rw [arrV_new]
    refine congrArg (arrV c N) (funext fun j => ?_)
    simp [va_rf]
  | succ i ih =>
    show (Jvm.Free.Multi.outerC c N h0 i).setSlot i (.ref (h0 + 1 + i)) = _
    rw [ih, arrV_store]
    refine congrArg (arrV c N) (funext fun j => ?_)
    by_cases e : j = i
    · subst e
      simp [updV, va_rf]
    · by_cases h : j < i
      · simp [updV, e, h, Nat.lt_succ_of_lt h]
      · simp [updV, e, h, show ¬ j < i + 1 by omega]
def px_grid (h : PH) (N K : Nat) : PH := (h.1 ++ (23, N) :: List.replicate N (20, K), fun a j => if h.1.length ≤ a then 0 else h.2.1 a j, fun a j => if a = h.1.length then (if j < N then some (h.1.length + 1 + j) else none) else h.2.2 a j)
theorem ex_mna {M : MD} {pc : Nat} {ls : List (Option PV)} {st : List PV} {h : PH} {B : Nat × Nat} {Q : Option PV → PH → Prop} {n k0 : Int} {N K idx : Nat} (pc' : Nat) (B' : Nat × Nat) (hd : decode M.2.1 pc = .ok (.multianewarray idx 2, 4)) (hp : pc' = pc + 4) (hcl : Cond.classLink M.1.cls idx ("[" ++ (FieldType.array .int).toString) ∈ WS) (hac : Cond.arrayClass .int ∈ WS) (hN : n = (N : Int)) (hK : k0 = (K : Int)) (hb : N ≤ 10000) (hb2 : K ≤ 10000) (hB : B = (B'.1 + (1 + N), B'.2 + (N + N * K))) (k : ∀ h1, h1 = px_grid h N K → EX M pc' ls (vr h.1.length :: st) h1 B' Q) : EX M pc ls (vi k0 :: vi n :: st) h B Q := by
  subst hp
  subst hB
  subst hN
  subst hK
  intro p l e R s m args below meth c D cy ad T0 A H locs cells slots lsA C S L
  intro T hT X
  obtain ⟨S1, S2, S3, S4, S5, S6, S7, S8, S9⟩ := S
  dsimp only at S5 S6 S9
  have had0 : ad h.1.length = H.size := by have := S9 0 (by omega); simpa using this
  have hadj : ∀ j, j < N → ad (h.1.length + 1 + j) = H.size + 1 + j := fun j hj => by
    have := S9 (1 + j) (by omega)
    rw [show h.1.length + 1 + j = h.1.length + (1 + j) by omega, this]
    omega
  have hr : rng (N : Int) := ⟨by omega, by omega⟩
  have hrk : rng (K : Int) := ⟨by omega, by omega⟩
  have hcn : (Int32.ofInt (N : Int)).toNatClampNeg = N := rng_cl (by omega) (by omega)
  have hck : (Int32.ofInt (K : Int)).toNatClampNeg = K := rng_cl (by omega) (by omega)
  obtain ⟨vm₁, cA, comp, -, fA, fC, -, -, X', step⟩ := X.multianewarray2F C.1 C.2.2.2.2.1 (C.2.2.2.2.2.1 _ hcl) (show (Cond.arrayOver (.array .int)).before args s = true from C.2.2.2.2.2.2.2.2.2.2.2.2.2.2.2.2.1) (C.2.2.2.2.2.1 _ hac) (g := F0 m pc lsA (.int (Int32.ofInt (K : Int)) :: .int (Int32.ofInt (N : Int)) :: st.map (px_tr ad))) rfl (by rw [C.2.1]; exact hd) rfl
    (fun z => by have := (rng_lt hr rng_0).mp z; omega) (fun z => by have := (rng_lt hrk rng_0).mp z; omega) (by rw [hcn]; omega) (by rw [hck]; show K * 4 ≤ _; omega) (by rw [hck]; omega) rfl rfl (by rw [hcn]; omega) (by rw [hcn, hck]; omega)
  rw [hcn, hck] at X' step
  have hTh : (T.setVm vm₁).heap = H := hT
  obtain ⟨f1, f2, -, -⟩ := Jvm.Free.Multi.fill_facts (T.setVm vm₁) cA comp N K (defaultValue .int) N
  have f3 : ∀ x : Nat, x < H.size → (Jvm.Free.Multi.fill (T.setVm vm₁) cA comp N K (defaultValue .int) N).heap[x]? = H[x]? := fun x hx => by
    have := Jvm.Free.Multi.fill_old (T.setVm vm₁) cA comp N K (defaultValue .int) (a := x) (by rw [hTh]; exact hx) N
    rw [hTh] at this
    exact this
  have f4 : ∀ j : Nat, j < N → (Jvm.Free.Multi.fill (T.setVm vm₁) cA comp N K (defaultValue .int) N).heap[H.size + 1 + j]? = some (arrV comp K (fun _ => .int 0)) := fun j hj => by
    have := Jvm.Free.Multi.fill_inner (T.setVm vm₁) cA comp N K (defaultValue .int) N j hj
    rw [hTh] at this
    rw [this, ← arrV_new]
    rfl
  rw [hTh] at f1 f2
  rw [px_outer] at f2
  have hc3 : cA = cy 3 := Option.some.inj (fA.symm.trans (C.2.2.2.2.2.2.2.1.2 3 (cy 3, .array .int) rfl).2)
  have hc0 : comp = cy 0 := Option.some.inj (fC.symm.trans (C.2.2.2.2.2.2.2.1.2 0 (cy 0, .int) rfl).2)
  subst hc3
  subst hc0
  revert f1 f2 f3 f4 X' step
  generalize Jvm.Free.Multi.fill (T.setVm vm₁) (cy 3) (cy 0) N K (defaultValue .int) N = F
  intro X' step f1 f2 f3 f4
  have hlen : (px_grid h N K).1.length = h.1.length + (1 + N) := by simp [px_grid]; omega
  have hS1 : SIM D cy ad (px_grid h N K) F.heap := by
    intro i
    by_cases hl : i < h.1.length
    · exact px_kept (S1 i) (by show (h.1 ++ _)[i]? = _; rw [List.getElem?_append_left hl]) (fun k => by simp [px_grid, Nat.not_le.mpr hl]) (fun k => by simp [px_grid, Nat.ne_of_lt hl]) (fun _ => f3 _ (px_lt S1 hl))
    · by_cases hi : i = h.1.length
      · subst hi
        have hT1 : (px_grid h N K).1[h.1.length]? = some (23, N) := by simp [px_grid]
        unfold px_at
        rw [hT1]
        dsimp only
        rw [if_neg (by omega), if_neg (by omega), had0, f2]
        refine congrArg (fun f => some (arrV (cy 3) N f)) (funext fun j => ?_)
        by_cases hj : j < N
        · simp [px_grid, hj, hadj j hj]
        · simp [px_grid, hj]
      · by_cases hi2 : i < h.1.length + (1 + N)
        · obtain ⟨j, rfl⟩ : ∃ j, i = h.1.length + 1 + j := ⟨i - (h.1.length + 1), by omega⟩
          have hT1 : (px_grid h N K).1[h.1.length + 1 + j]? = some (20, K) := by
            show (h.1 ++ (23, N) :: List.replicate N (20, K))[_]? = _
            rw [List.getElem?_append_right (by omega), show h.1.length + 1 + j - h.1.length = j + 1 by omega, List.getElem?_cons_succ, List.getElem?_replicate, if_pos (by omega)]
          unfold px_at
          rw [hT1]
          dsimp only
          rw [if_neg (by omega), if_pos rfl, hadj j (by omega), f4 j (by omega)]
          refine congrArg (fun f => some (arrV (cy 0) K f)) (funext fun q => ?_)
          simp [px_grid, show h.1.length ≤ h.1.length + 1 + j by omega]
        · unfold px_at
          have : (px_grid h N K).1[i]? = none := List.getElem?_eq_none (by rw [hlen]; omega)
          rw [this]
          trivial
  have hge : ∀ i, h.1.length ≤ i → i < h.1.length + (1 + N) → ad i = H.size + (i - h.1.length) := fun i h1 h2 => by
    have := S9 (i - h.1.length) (by omega)
    rw [show h.1.length + (i - h.1.length) = i by omega] at this
    exact this
  obtain ⟨t, a1, b1⟩ := k _ rfl p l e R s m args below meth c D cy ad T0 A F.heap locs (cells + (1 + N)) (slots + (N + N * K)) lsA C ⟨hS1, ⟨fun i j hi hj e => by
      rw [hlen] at hi hj
      by_cases h1 : i < h.1.length <;> by_cases h2 : j < h.1.length
      · exact S2.1 i j h1 h2 e
      · have := px_lt S1 h1
        have := hge j (by omega) hj
        omega
      · have := px_lt S1 h2
        have := hge i (by omega) hi
        omega
      · have := hge j (by omega) hj
        have := hge i (by omega) hi
        omega, fun i hi => by
      rw [hlen] at hi
      by_cases h1 : i < h.1.length
      · exact S2.2 i h1
      · rw [hge i (by omega) hi]
        exact S4 _ (by have := S3.1; omega)⟩, ⟨by have := S3.1; omega, fun q h1 h2 => by rw [f3 q (Nat.lt_of_lt_of_le h1 S3.1)]; exact S3.2.1 q h1 h2, S3.2.2⟩, S4, by omega, by omega, by omega, (by obtain ⟨r, h2, h3⟩ := S8; exact ⟨r ++ ((23, N) :: List.replicate N (20, K)), by simp [px_grid, h2], by simp [h3]; omega⟩), fun j hj => by
      have := S9 (1 + N + j) (by omega)
      rw [hlen, show h.1.length + (1 + N) + j = h.1.length + (1 + N + j) by omega, this]
      omega⟩ L F rfl (by rw [show cells + (1 + N) = cells + 1 + N by omega, show slots + (N + N * K) = slots + N + N * K by omega]; exact X')
  refine ⟨t, step t ?_, b1⟩
  rw [List.map_cons, show px_tr ad (vr h.1.length) = .ref H.size by simp [px_tr, va_rf, had0]] at a1
  rw [show T.heap.size = H.size by rw [hT]]
  exact a1
end
section
/-! facts that move over a change of the heap -/
theorem OB.of {h h1 : PH} {c i : Nat} (e : h1.1 = h.1) (x : OB h c i) : OB h1 c i := by unfold OB; rw [e]; exact x
theorem AI.of {h h1 : PH} {t i : Nat} {k : Int} (e : h1.1 = h.1) (x : AI h t i k) : AI h1 t i k := by unfold AI; rw [e]; exact x
theorem KI {h h1 : PH} {i k : Nat} {x : Int} (e : h1 = px_upI h i k x) : h1.1 = h.1 := by rw [e]; rfl
theorem KR {h h1 : PH} {i k : Nat} {x : Option Nat} (e : h1 = px_upR h i k x) : h1.1 = h.1 := by rw [e]; rfl
theorem RI {h h1 : PH} {i k a j b : Nat} {x : Int} (e : h1 = px_upI h i k x) (f : h.2.2 a j = some b) : h1.2.2 a j = some b := by rw [e]; exact f
theorem ex_dropL {M : MD} {pc : Nat} {ls ls' : List (Option PV)} {st : List PV} {h : PH} {B : Nat × Nat} {Q : Option PV → PH → Prop} (j : Nat) (hs : ls.set j none = ls') (k : EX M pc ls' st h B Q) : EX M pc ls st h B Q := by
  subst hs
  intro p l e R s m args below meth c D cy ad T0 A H locs cells slots lsA C S L
  refine k p l e R s m args below meth c D cy ad T0 A H locs cells slots lsA C S ⟨L.1, L.2.1, fun i v hv => L.2.2 i v ?_⟩
  by_cases e : i = j
  · subst e
    by_cases hl : i < ls.length
    · rw [List.getElem?_set_self hl] at hv; cases hv
    · rw [List.getElem?_eq_none (by simpa using hl)] at hv; cases hv
  · rw [List.getElem?_set_ne (Ne.symm e)] at hv
    exact hv
def FI (own : String) (idx c0 k0 : Nat) : Prop := ∃ q : vw_C, vwCl[c0]? = some q ∧ k0 < q.2.2 ∧ Cond.fieldLink own idx (q.2.1 k0).1 (q.2.1 k0).2.1 (q.2.1 k0).2.2.1 ∈ WS
def FF (own : String) (c0 k0 : Nat) (b : Bool) : Prop := ∀ q : vw_C, vwCl[c0]? = some q → (q.2.1 k0).2.2.2 = b ∧ (q.2.1 k0).1 = own
def CVV (own : String) (idx : Nat) (N : MD) (n c0 : Nat) : Prop := Cond.methodLink own idx N.1 ∈ WS ∧ (NV N n ∧ Cond.instanceMethod N.1 ∈ WS ∧ Cond.selects N.1.cls N.1 N.1 ∈ WS) ∧ ∃ q : vw_C, vwCl[c0]? = some q ∧ q.1 = N.1.cls
def CVS (own : String) (idx : Nat) (N : MD) (n : Nat) : Prop := Cond.methodLink own idx N.1 ∈ WS ∧ NV N n ∧ Cond.static N.1 ∈ WS
def CVI (own : String) (idx : Nat) (N : MD) (n : Nat) : Prop := Cond.methodLink own idx N.1 ∈ WS ∧ NV N n ∧ Cond.instanceMethod N.1 ∈ WS ∧ N.1.name = "<init>" ∧ N.2.2.2.1 = none
theorem q_getI {M : MD} {pc : Nat} {ls : List (Option PV)} {st : List PV} {h : PH} {B : Nat × Nat} {Q : Option PV → PH → Prop} {i idx : Nat} (c0 k0 pc' : Nat) (hd : decode M.2.1 pc = .ok (.getfield idx, 3)) (hp : pc' = pc + 3) (hF : FI M.1.cls idx c0 k0) (hy : px_ty c0 k0 = .int ∨ px_ty c0 k0 = .boolean) (hO : OB h c0 i) (k : EX M pc' ls (vi (h.2.1 i k0) :: st) h B Q) : EX M pc ls (vr i :: st) h B Q := by
  obtain ⟨q, h1, h2, h3⟩ := hF
  exact ex_getI c0 k0 pc' hd hp h1 h2 h3 hy hO k
theorem q_getL {M : MD} {pc : Nat} {ls : List (Option PV)} {st : List PV} {h : PH} {B : Nat × Nat} {Q : Option PV → PH → Prop} {i idx : Nat} (c0 k0 pc' : Nat) (hd : decode M.2.1 pc = .ok (.getfield idx, 3)) (hp : pc' = pc + 3) (hF : FI M.1.cls idx c0 k0) (hy : px_ty c0 k0 = .long) (hO : OB h c0 i) (k : EX M pc' ls (vl (h.2.1 i k0) :: st) h B Q) : EX M pc ls (vr i :: st) h B Q := by
  obtain ⟨q, h1, h2, h3⟩ := hF
  exact ex_getL c0 k0 pc' hd hp h1 h2 h3 hy hO k
theorem q_getR {M : MD} {pc : Nat} {ls : List (Option PV)} {st : List PV} {h : PH} {B : Nat × Nat} {Q : Option PV → PH → Prop} {a : Nat} {i idx : Nat} (c0 k0 pc' : Nat) (hd : decode M.2.1 pc = .ok (.getfield idx, 3)) (hp : pc' = pc + 3) (hF : FI M.1.cls idx c0 k0) (hy : px_isR (px_ty c0 k0) = true) (hO : OB h c0 i) (ha : h.2.2 i k0 = some a) (k : EX M pc' ls (vr a :: st) h B Q) : EX M pc ls (vr i :: st) h B Q := by
  obtain ⟨q, h1, h2, h3⟩ := hF
  exact ex_getR c0 k0 pc' hd hp h1 h2 h3 hy hO ha k
theorem q_putI {M : MD} {pc : Nat} {ls : List (Option PV)} {st : List PV} {h : PH} {B : Nat × Nat} {Q : Option PV → PH → Prop} {x : Int} {i idx : Nat} (c0 k0 pc' : Nat) (hd : decode M.2.1 pc = .ok (.putfield idx, 3)) (hp : pc' = pc + 3) (hF : FI M.1.cls idx c0 k0) {own : String} (hG : FF own c0 k0 false) (hy : px_ty c0 k0 = .int) (hO : OB h c0 i) (k : ∀ h1, h1 = px_upI h i k0 x → EX M pc' ls st h1 B Q) : EX M pc ls (vi x :: vr i :: st) h B Q := by
  obtain ⟨q, h1, h2, h3⟩ := hF
  exact ex_putI c0 k0 pc' hd hp h1 h2 h3 (hG q h1).1 hy hO k
theorem q_putZ {M : MD} {pc : Nat} {ls : List (Option PV)} {st : List PV} {h : PH} {B : Nat × Nat} {Q : Option PV → PH → Prop} {x : Int} {i idx : Nat} (c0 k0 pc' : Nat) (hd : decode M.2.1 pc = .ok (.putfield idx, 3)) (hp : pc' = pc + 3) (hF : FI M.1.cls idx c0 k0) {own : String} (hG : FF own c0 k0 false) (hy : px_ty c0 k0 = .boolean) (hO : OB h c0 i) (hx : x = 0 ∨ x = 1) (k : ∀ h1, h1 = px_upI h i k0 x → EX M pc' ls st h1 B Q) : EX M pc ls (vi x :: vr i :: st) h B Q := by
  obtain ⟨q, h1, h2, h3⟩ := hF
  exact ex_putZ c0 k0 pc' hd hp h1 h2 h3 (hG q h1).1 hy hO hx k
theorem q_putL {M : MD} {pc : Nat} {ls : List (Option PV)} {st : List PV} {h : PH} {B : Nat × Nat} {Q : Option PV → PH → Prop} {x : Int} {i idx : Nat} (c0 k0 pc' : Nat) (hd : decode M.2.1 pc = .ok (.putfield idx, 3)) (hp : pc' = pc + 3) (hF : FI M.1.cls idx c0 k0) {own : String} (hG : FF own c0 k0 false) (hy : px_ty c0 k0 = .long) (hO : OB h c0 i) (k : ∀ h1, h1 = px_upI h i k0 x → EX M pc' ls st h1 B Q) : EX M pc ls (vl x :: vr i :: st) h B Q := by
  obtain ⟨q, h1, h2, h3⟩ := hF
  exact ex_putL c0 k0 pc' hd hp h1 h2 h3 (hG q h1).1 hy hO k
theorem q_putR {M : MD} {pc : Nat} {ls : List (Option PV)} {st : List PV} {h : PH} {B : Nat × Nat} {Q : Option PV → PH → Prop} {a : Nat} {i idx : Nat} (c0 k0 pc' : Nat) (hd : decode M.2.1 pc = .ok (.putfield idx, 3)) (hp : pc' = pc + 3) (hF : FI M.1.cls idx c0 k0) {own : String} (hG : FF own c0 k0 false) (hy : px_isR (px_ty c0 k0) = true) (hO : OB h c0 i) (k : ∀ h1, h1 = px_upR h i k0 (some a) → EX M pc' ls st h1 B Q) : EX M pc ls (vr a :: vr i :: st) h B Q := by
  obtain ⟨q, h1, h2, h3⟩ := hF
  exact ex_putR c0 k0 pc' hd hp h1 h2 h3 (hG q h1).1 hy hO k
theorem q_putIF {M : MD} {pc : Nat} {ls : List (Option PV)} {st : List PV} {h : PH} {B : Nat × Nat} {Q : Option PV → PH → Prop} {x : Int} {i idx : Nat} (c0 k0 pc' : Nat) (hd : decode M.2.1 pc = .ok (.putfield idx, 3)) (hp : pc' = pc + 3) (hF : FI M.1.cls idx c0 k0) (hG : FF M.1.cls c0 k0 true) (hM : M.1.name = "<init>") (hy : px_ty c0 k0 = .int) (hO : OB h c0 i) (k : ∀ h1, h1 = px_upI h i k0 x → EX M pc' ls st h1 B Q) : EX M pc ls (vi x :: vr i :: st) h B Q := by
  obtain ⟨q, h1, h2, h3⟩ := hF
  exact ex_putIF c0 k0 pc' hd hp h1 h2 h3 (hG q h1).1 hM (hG q h1).2 hy hO k
theorem q_putZF {M : MD} {pc : Nat} {ls : List (Option PV)} {st : List PV} {h : PH} {B : Nat × Nat} {Q : Option PV → PH → Prop} {x : Int} {i idx : Nat} (c0 k0 pc' : Nat) (hd : decode M.2.1 pc = .ok (.putfield idx, 3)) (hp : pc' = pc + 3) (hF : FI M.1.cls idx c0 k0) (hG : FF M.1.cls c0 k0 true) (hM : M.1.name = "<init>") (hy : px_ty c0 k0 = .boolean) (hO : OB h c0 i) (hx : x = 0 ∨ x = 1) (k : ∀ h1, h1 = px_upI h i k0 x → EX M pc' ls st h1 B Q) : EX M pc ls (vi x :: vr i :: st) h B Q := by
  obtain ⟨q, h1, h2, h3⟩ := hF
  exact ex_putZF c0 k0 pc' hd hp h1 h2 h3 (hG q h1).1 hM (hG q h1).2 hy hO hx k
theorem q_putLF {M : MD} {pc : Nat} {ls : List (Option PV)} {st : List PV} {h : PH} {B : Nat × Nat} {Q : Option PV → PH → Prop} {x : Int} {i idx : Nat} (c0 k0 pc' : Nat) (hd : decode M.2.1 pc = .ok (.putfield idx, 3)) (hp : pc' = pc + 3) (hF : FI M.1.cls idx c0 k0) (hG : FF M.1.cls c0 k0 true) (hM : M.1.name = "<init>") (hy : px_ty c0 k0 = .long) (hO : OB h c0 i) (k : ∀ h1, h1 = px_upI h i k0 x → EX M pc' ls st h1 B Q) : EX M pc ls (vl x :: vr i :: st) h B Q := by
  obtain ⟨q, h1, h2, h3⟩ := hF
  exact ex_putLF c0 k0 pc' hd hp h1 h2 h3 (hG q h1).1 hM (hG q h1).2 hy hO k
theorem q_putRF {M : MD} {pc : Nat} {ls : List (Option PV)} {st : List PV} {h : PH} {B : Nat × Nat} {Q : Option PV → PH → Prop} {a : Nat} {i idx : Nat} (c0 k0 pc' : Nat) (hd : decode M.2.1 pc = .ok (.putfield idx, 3)) (hp : pc' = pc + 3) (hF : FI M.1.cls idx c0 k0) (hG : FF M.1.cls c0 k0 true) (hM : M.1.name = "<init>") (hy : px_isR (px_ty c0 k0) = true) (hO : OB h c0 i) (k : ∀ h1, h1 = px_upR h i k0 (some a) → EX M pc' ls st h1 B Q) : EX M pc ls (vr a :: vr i :: st) h B Q := by
  obtain ⟨q, h1, h2, h3⟩ := hF
  exact ex_putRF c0 k0 pc' hd hp h1 h2 h3 (hG q h1).1 hM (hG q h1).2 hy hO k
theorem q_istore_n {M : MD} {pc : Nat} {ls : List (Option PV)} {st : List PV} {h : PH} {B : Nat × Nat} {Q : Option PV → PH → Prop} {i : Fin 4} {x : Int} (ls' : List (Option PV)) (pc' : Nat) (hd : decode M.2.1 pc = .ok (.istore_n i, 1)) (hp : pc' = pc + 1) (hi : (i : Nat) < M.2.2.1) (hk : px_ok ls i = true) (hs : ls.set (i : Nat) (some (vi x)) = ls') (k : EX M pc' ls' st h B Q) : EX M pc ls (vi x :: st) h B Q := by
  subst hs
  exact ex_istore_n pc' hd hp hi hk k
theorem q_istore {M : MD} {pc : Nat} {ls : List (Option PV)} {st : List PV} {h : PH} {B : Nat × Nat} {Q : Option PV → PH → Prop} {i : Nat} {x : Int} (ls' : List (Option PV)) (pc' : Nat) (hd : decode M.2.1 pc = .ok (.istore i, 2)) (hp : pc' = pc + 2) (hi : (i : Nat) < M.2.2.1) (hk : px_ok ls i = true) (hs : ls.set (i : Nat) (some (vi x)) = ls') (k : EX M pc' ls' st h B Q) : EX M pc ls (vi x :: st) h B Q := by
  subst hs
  exact ex_istore pc' hd hp hi hk k
theorem q_lstore_n {M : MD} {pc : Nat} {ls : List (Option PV)} {st : List PV} {h : PH} {B : Nat × Nat} {Q : Option PV → PH → Prop} {i : Fin 4} {x : Int} (ls' : List (Option PV)) (pc' : Nat) (hd : decode M.2.1 pc = .ok (.lstore_n i, 1)) (hp : pc' = pc + 1) (hi : (i : Nat) + 1 < M.2.2.1) (hk : px_ok ls i = true) (hs : (ls.set (i : Nat) (some (vl x))).set ((i : Nat) + 1) none = ls') (k : EX M pc' ls' st h B Q) : EX M pc ls (vl x :: st) h B Q := by
  subst hs
  exact ex_lstore_n pc' hd hp hi hk k
theorem q_astore_n {M : MD} {pc : Nat} {ls : List (Option PV)} {st : List PV} {h : PH} {B : Nat × Nat} {Q : Option PV → PH → Prop} {i : Fin 4} {x : Nat} (ls' : List (Option PV)) (pc' : Nat) (hd : decode M.2.1 pc = .ok (.astore_n i, 1)) (hp : pc' = pc + 1) (hi : (i : Nat) < M.2.2.1) (hk : px_ok ls i = true) (hs : ls.set (i : Nat) (some (vr x)) = ls') (k : EX M pc' ls' st h B Q) : EX M pc ls (vr x :: st) h B Q := by
  subst hs
  exact ex_astore_n pc' hd hp hi hk k
theorem q_astore {M : MD} {pc : Nat} {ls : List (Option PV)} {st : List PV} {h : PH} {B : Nat × Nat} {Q : Option PV → PH → Prop} {i : Nat} {x : Nat} (ls' : List (Option PV)) (pc' : Nat) (hd : decode M.2.1 pc = .ok (.astore i, 2)) (hp : pc' = pc + 2) (hi : (i : Nat) < M.2.2.1) (hk : px_ok ls i = true) (hs : ls.set (i : Nat) (some (vr x)) = ls') (k : EX M pc' ls' st h B Q) : EX M pc ls (vr x :: st) h B Q := by
  subst hs
  exact ex_astore pc' hd hp hi hk k
theorem q_iinc {M : MD} {pc : Nat} {ls : List (Option PV)} {st : List PV} {h : PH} {B : Nat × Nat} {Q : Option PV → PH → Prop} {i : Nat} {n x : Int} (ls' : List (Option PV)) (pc' : Nat) (hd : decode M.2.1 pc = .ok (.iinc i n, 3)) (hp : pc' = pc + 3) (hl : ls[i]? = some (some (vi x))) (hi : i < M.2.2.1) (hk : px_ok ls i = true) (hs : ls.set i (some (vi (x + n))) = ls') (k : EX M pc' ls' st h B Q) : EX M pc ls st h B Q := by
  subst hs
  exact ex_iinc pc' hd hp hl hi hk k
theorem q_callVi {M N : MD} {pc : Nat} {ls : List (Option PV)} {st stk : List PV} {h : PH} {B : Nat × Nat} {Q : Option PV → PH → Prop} {idx n : Nat} {b c0 : Nat} {P : Int → PH → Prop} (av : List PV) (pc' : Nat) (hd : decode M.2.1 pc = .ok (.invokevirtual idx, 3)) (hp : pc' = pc + 3) (hV : CVV M.1.cls idx N n c0) (hk : stk = av.reverse ++ vr b :: st) (hn : av.length = n) (hfr : N.2.2.2.2.1 + 1 ≤ M.2.2.2.2.1 ∧ 8 + (N.2.2.1 + 11) + N.2.2.2.2.2 ≤ M.2.2.2.2.2) (hw : px_sum st ≤ 8) (hO : OB h c0 b)
    (hM : METi N (vr b :: av) h (fun x h1 => h1.1 = h.1 → P x h1)) (k : ∀ x h1, h1.1 = h.1 → P x h1 → EX M pc' ls (vi x :: st) h1 B Q) : EX M pc ls stk h B Q := by
  obtain ⟨v1, v2, q, v3, v4⟩ := hV
  exact ex_callVi (P := fun x h1 => h1.1 = h.1 ∧ P x h1) av pc' hd hp v1 v2 v3 v4 hk hn hfr hw hO (hM.kinds.mono (fun v h1 hq => by obtain ⟨e, x, hx, hq⟩ := hq; exact ⟨x, hx, e, hq e⟩)) (fun x h1 hq => k x h1 hq.1 hq.2)
theorem q_callSi {M N : MD} {pc : Nat} {ls : List (Option PV)} {st stk : List PV} {h : PH} {B : Nat × Nat} {Q : Option PV → PH → Prop} {idx n : Nat} {P : Int → PH → Prop} (av : List PV) (pc' : Nat) (hd : decode M.2.1 pc = .ok (.invokestatic idx, 3)) (hp : pc' = pc + 3) (hV : CVS M.1.cls idx N n) (hk : stk = av.reverse ++ st) (hn : av.length = n) (hfr : N.2.2.2.2.1 + 1 ≤ M.2.2.2.2.1 ∧ 8 + (N.2.2.1 + 11) + N.2.2.2.2.2 ≤ M.2.2.2.2.2) (hw : px_sum st ≤ 8)
    (hM : METi N (av) h (fun x h1 => h1.1 = h.1 → P x h1)) (k : ∀ x h1, h1.1 = h.1 → P x h1 → EX M pc' ls (vi x :: st) h1 B Q) : EX M pc ls stk h B Q :=
  ex_callSi (P := fun x h1 => h1.1 = h.1 ∧ P x h1) av pc' hd hp hV.1 hV.2 hk hn hfr hw (hM.kinds.mono (fun v h1 hq => by obtain ⟨e, x, hx, hq⟩ := hq; exact ⟨x, hx, e, hq e⟩)) (fun x h1 hq => k x h1 hq.1 hq.2)
theorem q_callVl {M N : MD} {pc : Nat} {ls : List (Option PV)} {st stk : List PV} {h : PH} {B : Nat × Nat} {Q : Option PV → PH → Prop} {idx n : Nat} {b c0 : Nat} {P : Int → PH → Prop} (av : List PV) (pc' : Nat) (hd : decode M.2.1 pc = .ok (.invokevirtual idx, 3)) (hp : pc' = pc + 3) (hV : CVV M.1.cls idx N n c0) (hk : stk = av.reverse ++ vr b :: st) (hn : av.length = n) (hfr : N.2.2.2.2.1 + 1 ≤ M.2.2.2.2.1 ∧ 8 + (N.2.2.1 + 11) + N.2.2.2.2.2 ≤ M.2.2.2.2.2) (hw : px_sum st ≤ 8) (hO : OB h c0 b)
    (hM : METl N (vr b :: av) h (fun x h1 => h1.1 = h.1 → P x h1)) (k : ∀ x h1, h1.1 = h.1 → P x h1 → EX M pc' ls (vl x :: st) h1 B Q) : EX M pc ls stk h B Q := by
  obtain ⟨v1, v2, q, v3, v4⟩ := hV
  exact ex_callVl (P := fun x h1 => h1.1 = h.1 ∧ P x h1) av pc' hd hp v1 v2 v3 v4 hk hn hfr hw hO (hM.kinds.mono (fun v h1 hq => by obtain ⟨e, x, hx, hq⟩ := hq; exact ⟨x, hx, e, hq e⟩)) (fun x h1 hq => k x h1 hq.1 hq.2)
theorem q_callSl {M N : MD} {pc : Nat} {ls : List (Option PV)} {st stk : List PV} {h : PH} {B : Nat × Nat} {Q : Option PV → PH → Prop} {idx n : Nat} {P : Int → PH → Prop} (av : List PV) (pc' : Nat) (hd : decode M.2.1 pc = .ok (.invokestatic idx, 3)) (hp : pc' = pc + 3) (hV : CVS M.1.cls idx N n) (hk : stk = av.reverse ++ st) (hn : av.length = n) (hfr : N.2.2.2.2.1 + 1 ≤ M.2.2.2.2.1 ∧ 8 + (N.2.2.1 + 11) + N.2.2.2.2.2 ≤ M.2.2.2.2.2) (hw : px_sum st ≤ 8)
    (hM : METl N (av) h (fun x h1 => h1.1 = h.1 → P x h1)) (k : ∀ x h1, h1.1 = h.1 → P x h1 → EX M pc' ls (vl x :: st) h1 B Q) : EX M pc ls stk h B Q :=
  ex_callSl (P := fun x h1 => h1.1 = h.1 ∧ P x h1) av pc' hd hp hV.1 hV.2 hk hn hfr hw (hM.kinds.mono (fun v h1 hq => by obtain ⟨e, x, hx, hq⟩ := hq; exact ⟨x, hx, e, hq e⟩)) (fun x h1 hq => k x h1 hq.1 hq.2)
theorem q_callVv {M N : MD} {pc : Nat} {ls : List (Option PV)} {st stk : List PV} {h : PH} {B : Nat × Nat} {Q : Option PV → PH → Prop} {idx n : Nat} {b c0 : Nat} {P : PH → Prop} (av : List PV) (pc' : Nat) (hd : decode M.2.1 pc = .ok (.invokevirtual idx, 3)) (hp : pc' = pc + 3) (hV : CVV M.1.cls idx N n c0) (hk : stk = av.reverse ++ vr b :: st) (hn : av.length = n) (hfr : N.2.2.2.2.1 + 1 ≤ M.2.2.2.2.1 ∧ 8 + (N.2.2.1 + 11) + N.2.2.2.2.2 ≤ M.2.2.2.2.2) (hw : px_sum st ≤ 8) (hO : OB h c0 b)
    (hM : METv N (vr b :: av) h (0, 0) (fun h1 => h1.1 = h.1 → P h1)) (k : ∀ h1, h1.1 = h.1 → P h1 → EX M pc' ls st h1 B Q) : EX M pc ls stk h B Q := by
  obtain ⟨v1, v2, q, v3, v4⟩ := hV
  exact ex_callVv (P := fun h1 => h1.1 = h.1 ∧ P h1) av pc' hd hp v1 v2 v3 v4 hk hn hfr hw hO (hM.kinds.mono (fun v h1 hq => by obtain ⟨e, hx, hq⟩ := hq; exact ⟨hx, e, hq e⟩)) (fun h1 hq => k h1 hq.1 hq.2)
theorem q_callSv {M N : MD} {pc : Nat} {ls : List (Option PV)} {st stk : List PV} {h : PH} {B : Nat × Nat} {Q : Option PV → PH → Prop} {idx n : Nat} {P : PH → Prop} (av : List PV) (pc' : Nat) (hd : decode M.2.1 pc = .ok (.invokestatic idx, 3)) (hp : pc' = pc + 3) (hV : CVS M.1.cls idx N n) (hk : stk = av.reverse ++ st) (hn : av.length = n) (hfr : N.2.2.2.2.1 + 1 ≤ M.2.2.2.2.1 ∧ 8 + (N.2.2.1 + 11) + N.2.2.2.2.2 ≤ M.2.2.2.2.2) (hw : px_sum st ≤ 8)
    (hM : METv N (av) h (0, 0) (fun h1 => h1.1 = h.1 → P h1)) (k : ∀ h1, h1.1 = h.1 → P h1 → EX M pc' ls st h1 B Q) : EX M pc ls stk h B Q :=
  ex_callSv (P := fun h1 => h1.1 = h.1 ∧ P h1) av pc' hd hp hV.1 hV.2 hk hn hfr hw (hM.kinds.mono (fun v h1 hq => by obtain ⟨e, hx, hq⟩ := hq; exact ⟨hx, e, hq e⟩)) (fun h1 hq => k h1 hq.1 hq.2)
def CVN (own : String) (idx : Nat) (N : MD) (n : Nat) : Prop := (own, idx, N.1) ∈ nestL ∧ NV N n ∧ Cond.static N.1 ∈ WS
def CVNI (own : String) (idx : Nat) (N : MD) (n : Nat) : Prop := (own, idx, N.1) ∈ nestL ∧ NV N n ∧ Cond.instanceMethod N.1 ∈ WS ∧ N.1.name = "<init>" ∧ N.2.2.2.1 = none
theorem q_callNi {M N : MD} {pc : Nat} {ls : List (Option PV)} {st stk : List PV} {h : PH} {B : Nat × Nat} {Q : Option PV → PH → Prop} {idx n : Nat} {P : Int → PH → Prop} (av : List PV) (pc' : Nat) (hd : decode M.2.1 pc = .ok (.invokestatic idx, 3)) (hp : pc' = pc + 3) (hV : CVN M.1.cls idx N n) (hk : stk = av.reverse ++ st) (hn : av.length = n) (hfr : N.2.2.2.2.1 + 1 ≤ M.2.2.2.2.1 ∧ 8 + (N.2.2.1 + 11) + N.2.2.2.2.2 ≤ M.2.2.2.2.2) (hw : px_sum st ≤ 8)
    (hM : METi N av h (fun x h1 => h1.1 = h.1 → P x h1)) (k : ∀ x h1, h1.1 = h.1 → P x h1 → EX M pc' ls (vi x :: st) h1 B Q) : EX M pc ls stk h B Q :=
  ex_callSN (B1 := (0, 0)) (B2 := B) av pc' hd hp hV.1 hV.2.1 hV.2.2 hk hn hfr.1 hfr.2 hw (by simp) hM.kinds (fun v h1 hq => by obtain ⟨e, x, rfl, hq⟩ := hq; exact k x h1 e (hq e))
theorem q_callIv {M N : MD} {pc : Nat} {ls : List (Option PV)} {st stk : List PV} {h : PH} {B B1 B2 : Nat × Nat} {Q : Option PV → PH → Prop} {idx n : Nat} {b : Nat} {P : PH → Prop} (av : List PV) (pc' : Nat) (hd : decode M.2.1 pc = .ok (.invokespecial idx, 3)) (hp : pc' = pc + 3) (hV : CVI M.1.cls idx N n) (hk : stk = av.reverse ++ vr b :: st) (hn : av.length = n) (hfr : N.2.2.2.2.1 + 1 ≤ M.2.2.2.2.1 ∧ 8 + (N.2.2.1 + 11) + N.2.2.2.2.2 ≤ M.2.2.2.2.2) (hw : px_sum st ≤ 8) (hB : B = (B1.1 + B2.1, B1.2 + B2.2))
    (hM : METv N (vr b :: av) h B1 P) (k : ∀ h1, P h1 → EX M pc' ls st h1 B2 Q) : EX M pc ls stk h B Q :=
  ex_callI av pc' hd hp hV.1 hV.2.1 hV.2.2.1 hV.2.2.2.1 hV.2.2.2.2 hk hn hfr.1 hfr.2 hw hB hM (fun v h1 hq => by obtain ⟨rfl, hq⟩ := hq; exact k h1 hq)
theorem q_callINv {M N : MD} {pc : Nat} {ls : List (Option PV)} {st stk : List PV} {h : PH} {B B1 B2 : Nat × Nat} {Q : Option PV → PH → Prop} {idx n : Nat} {b : Nat} {P : PH → Prop} (av : List PV) (pc' : Nat) (hd : decode M.2.1 pc = .ok (.invokespecial idx, 3)) (hp : pc' = pc + 3) (hV : CVNI M.1.cls idx N n) (hk : stk = av.reverse ++ vr b :: st) (hn : av.length = n) (hfr : N.2.2.2.2.1 + 1 ≤ M.2.2.2.2.1 ∧ 8 + (N.2.2.1 + 11) + N.2.2.2.2.2 ≤ M.2.2.2.2.2) (hw : px_sum st ≤ 8) (hB : B = (B1.1 + B2.1, B1.2 + B2.2))
    (hM : METv N (vr b :: av) h B1 P) (k : ∀ h1, P h1 → EX M pc' ls st h1 B2 Q) : EX M pc ls stk h B Q :=
  ex_callIN av pc' hd hp hV.1 hV.2.1 hV.2.2.1 hV.2.2.2.1 hV.2.2.2.2 hk hn hfr.1 hfr.2 hw hB hM (fun v h1 hq => by obtain ⟨rfl, hq⟩ := hq; exact k h1 hq)
end
