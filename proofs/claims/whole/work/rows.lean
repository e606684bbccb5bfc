section
-- ===== PART A: goes FIRST, ahead of the names: the tables' words, and 'selects' of the private methods out of them =====
/-- a private method of a class that the tables say can be made, by its rows of tables_1 -/
def lw_okq (q : MethodName × Nat) : Prop := (q.1.cls ≠ "java/lang/invoke/MethodHandle" ∧ q.1.cls ≠ "java/lang/invoke/VarHandle") ∧ Cond.instantiable q.1.cls q.2 ∈ tables_1 ∧ Cond.privateMethod q.1 ∈ tables_1 ∧ Cond.instanceMethod q.1 ∈ tables_1
theorem lw_p0 : lw_okq (⟨"CrossedFirst$Reader", "readItem", "([CII)Z"⟩, 2) := ⟨⟨by decide +kernel, by decide +kernel⟩, List.mem_of_getElem? (i := 27) (by decide +kernel), List.mem_of_getElem? (i := 192) (by decide +kernel), List.mem_of_getElem? (i := 193) (by decide +kernel)⟩
theorem lw_p1 : lw_okq (⟨"CrossedFirst$Reader", "readNumber", "([CII)Z"⟩, 2) := ⟨⟨by decide +kernel, by decide +kernel⟩, List.mem_of_getElem? (i := 27) (by decide +kernel), List.mem_of_getElem? (i := 199) (by decide +kernel), List.mem_of_getElem? (i := 200) (by decide +kernel)⟩
theorem lw_p2 : lw_okq (⟨"CrossedFirst$Reader", "tell", "(ILCrossedFirst$River;)Z"⟩, 2) := ⟨⟨by decide +kernel, by decide +kernel⟩, List.mem_of_getElem? (i := 27) (by decide +kernel), List.mem_of_getElem? (i := 206) (by decide +kernel), List.mem_of_getElem? (i := 207) (by decide +kernel)⟩
theorem lw_p3 : lw_okq (⟨"CrossedFirst$River", "putOnRaft", "(I)V"⟩, 18) := ⟨⟨by decide +kernel, by decide +kernel⟩, List.mem_of_getElem? (i := 45) (by decide +kernel), List.mem_of_getElem? (i := 235) (by decide +kernel), List.mem_of_getElem? (i := 236) (by decide +kernel)⟩
theorem lw_p4 : lw_okq (⟨"CrossedFirst$River", "takenFrom", "(I)I"⟩, 18) := ⟨⟨by decide +kernel, by decide +kernel⟩, List.mem_of_getElem? (i := 45) (by decide +kernel), List.mem_of_getElem? (i := 256) (by decide +kernel), List.mem_of_getElem? (i := 257) (by decide +kernel)⟩
theorem lw_p5 : lw_okq (⟨"CrossedFirst$Race", "mountBeast", "(I)V"⟩, 15) := ⟨⟨by decide +kernel, by decide +kernel⟩, List.mem_of_getElem? (i := 260) (by decide +kernel), List.mem_of_getElem? (i := 492) (by decide +kernel), List.mem_of_getElem? (i := 493) (by decide +kernel)⟩
theorem lw_p6 : lw_okq (⟨"CrossedFirst$Race", "mountRaft", "(I)V"⟩, 15) := ⟨⟨by decide +kernel, by decide +kernel⟩, List.mem_of_getElem? (i := 260) (by decide +kernel), List.mem_of_getElem? (i := 496) (by decide +kernel), List.mem_of_getElem? (i := 497) (by decide +kernel)⟩
theorem lw_p7 : lw_okq (⟨"CrossedFirst$Race", "earliestHelp", "()I"⟩, 15) := ⟨⟨by decide +kernel, by decide +kernel⟩, List.mem_of_getElem? (i := 260) (by decide +kernel), List.mem_of_getElem? (i := 503) (by decide +kernel), List.mem_of_getElem? (i := 504) (by decide +kernel)⟩
theorem lw_p8 : lw_okq (⟨"CrossedFirst$Race", "takenIn", "(I)I"⟩, 15) := ⟨⟨by decide +kernel, by decide +kernel⟩, List.mem_of_getElem? (i := 260) (by decide +kernel), List.mem_of_getElem? (i := 518) (by decide +kernel), List.mem_of_getElem? (i := 519) (by decide +kernel)⟩
theorem lw_p9 : lw_okq (⟨"CrossedFirst", "raceAsItIs", "()V"⟩, 11) := ⟨⟨by decide +kernel, by decide +kernel⟩, List.mem_of_getElem? (i := 19) (by decide +kernel), List.mem_of_getElem? (i := 532) (by decide +kernel), List.mem_of_getElem? (i := 533) (by decide +kernel)⟩
theorem lw_p10 : lw_okq (⟨"CrossedFirst$Race", "isAhead", "(II)Z"⟩, 15) := ⟨⟨by decide +kernel, by decide +kernel⟩, List.mem_of_getElem? (i := 260) (by decide +kernel), List.mem_of_getElem? (i := 542) (by decide +kernel), List.mem_of_getElem? (i := 543) (by decide +kernel)⟩
theorem lw_p11 : lw_okq (⟨"CrossedFirst$Race", "leader", "(I)I"⟩, 15) := ⟨⟨by decide +kernel, by decide +kernel⟩, List.mem_of_getElem? (i := 260) (by decide +kernel), List.mem_of_getElem? (i := 546) (by decide +kernel), List.mem_of_getElem? (i := 547) (by decide +kernel)⟩
theorem lw_p12 : lw_okq (⟨"CrossedFirst$Changes", "dropOldest", "()V"⟩, 4) := ⟨⟨by decide +kernel, by decide +kernel⟩, List.mem_of_getElem? (i := 322) (by decide +kernel), List.mem_of_getElem? (i := 562) (by decide +kernel), List.mem_of_getElem? (i := 563) (by decide +kernel)⟩
theorem lw_p13 : lw_okq (⟨"CrossedFirst", "changeCarrier", "(II)I"⟩, 11) := ⟨⟨by decide +kernel, by decide +kernel⟩, List.mem_of_getElem? (i := 19) (by decide +kernel), List.mem_of_getElem? (i := 575) (by decide +kernel), List.mem_of_getElem? (i := 576) (by decide +kernel)⟩
theorem lw_p14 : lw_okq (⟨"CrossedFirst", "rankRidingOn", "(II)I"⟩, 11) := ⟨⟨by decide +kernel, by decide +kernel⟩, List.mem_of_getElem? (i := 19) (by decide +kernel), List.mem_of_getElem? (i := 600) (by decide +kernel), List.mem_of_getElem? (i := 601) (by decide +kernel)⟩
theorem lw_p15 : lw_okq (⟨"CrossedFirst", "lightOnes", "(I)I"⟩, 11) := ⟨⟨by decide +kernel, by decide +kernel⟩, List.mem_of_getElem? (i := 19) (by decide +kernel), List.mem_of_getElem? (i := 608) (by decide +kernel), List.mem_of_getElem? (i := 609) (by decide +kernel)⟩
def lw_privs_1 : List (MethodName × Nat) := [(⟨"CrossedFirst$Reader", "readItem", "([CII)Z"⟩, 2), (⟨"CrossedFirst$Reader", "readNumber", "([CII)Z"⟩, 2), (⟨"CrossedFirst$Reader", "tell", "(ILCrossedFirst$River;)Z"⟩, 2), (⟨"CrossedFirst$River", "putOnRaft", "(I)V"⟩, 18), (⟨"CrossedFirst$River", "takenFrom", "(I)I"⟩, 18), (⟨"CrossedFirst$Race", "mountBeast", "(I)V"⟩, 15), (⟨"CrossedFirst$Race", "mountRaft", "(I)V"⟩, 15), (⟨"CrossedFirst$Race", "earliestHelp", "()I"⟩, 15), (⟨"CrossedFirst$Race", "takenIn", "(I)I"⟩, 15), (⟨"CrossedFirst", "raceAsItIs", "()V"⟩, 11), (⟨"CrossedFirst$Race", "isAhead", "(II)Z"⟩, 15), (⟨"CrossedFirst$Race", "leader", "(I)I"⟩, 15), (⟨"CrossedFirst$Changes", "dropOldest", "()V"⟩, 4), (⟨"CrossedFirst", "changeCarrier", "(II)I"⟩, 11), (⟨"CrossedFirst", "rankRidingOn", "(II)I"⟩, 11), (⟨"CrossedFirst", "lightOnes", "(I)I"⟩, 11)]
theorem lw_r1 : ∀ q ∈ lw_privs_1, lw_okq q := List.forall_mem_cons.mpr ⟨lw_p0, List.forall_mem_cons.mpr ⟨lw_p1, List.forall_mem_cons.mpr ⟨lw_p2, List.forall_mem_cons.mpr ⟨lw_p3, List.forall_mem_cons.mpr ⟨lw_p4, List.forall_mem_cons.mpr ⟨lw_p5, List.forall_mem_cons.mpr ⟨lw_p6, List.forall_mem_cons.mpr ⟨lw_p7, List.forall_mem_cons.mpr ⟨lw_p8, List.forall_mem_cons.mpr ⟨lw_p9, List.forall_mem_cons.mpr ⟨lw_p10, List.forall_mem_cons.mpr ⟨lw_p11, List.forall_mem_cons.mpr ⟨lw_p12, List.forall_mem_cons.mpr ⟨lw_p13, List.forall_mem_cons.mpr ⟨lw_p14, List.forall_mem_cons.mpr ⟨lw_p15, fun _ h => absurd h List.not_mem_nil⟩⟩⟩⟩⟩⟩⟩⟩⟩⟩⟩⟩⟩⟩⟩⟩
theorem lw_p16 : lw_okq (⟨"CrossedFirst", "bearersOf", "(I)I"⟩, 11) := ⟨⟨by decide +kernel, by decide +kernel⟩, List.mem_of_getElem? (i := 19) (by decide +kernel), List.mem_of_getElem? (i := 612) (by decide +kernel), List.mem_of_getElem? (i := 613) (by decide +kernel)⟩
theorem lw_p17 : lw_okq (⟨"CrossedFirst$Bridge", "crossWidest", "(LCrossedFirst$Race;LCrossedFirst$River;I)V"⟩, 2) := ⟨⟨by decide +kernel, by decide +kernel⟩, List.mem_of_getElem? (i := 376) (by decide +kernel), List.mem_of_getElem? (i := 624) (by decide +kernel), List.mem_of_getElem? (i := 625) (by decide +kernel)⟩
theorem lw_p18 : lw_okq (⟨"CrossedFirst$Bridge", "offer", "(LCrossedFirst$River;III)V"⟩, 2) := ⟨⟨by decide +kernel, by decide +kernel⟩, List.mem_of_getElem? (i := 376) (by decide +kernel), List.mem_of_getElem? (i := 631) (by decide +kernel), List.mem_of_getElem? (i := 632) (by decide +kernel)⟩
theorem lw_p19 : lw_okq (⟨"CrossedFirst", "wouldRather", "(II)Z"⟩, 11) := ⟨⟨by decide +kernel, by decide +kernel⟩, List.mem_of_getElem? (i := 19) (by decide +kernel), List.mem_of_getElem? (i := 652) (by decide +kernel), List.mem_of_getElem? (i := 653) (by decide +kernel)⟩
theorem lw_p20 : lw_okq (⟨"CrossedFirst$Giving", "lowestFitting", "(LCrossedFirst$River;II)I"⟩, 1) := ⟨⟨by decide +kernel, by decide +kernel⟩, List.mem_of_getElem? (i := 389) (by decide +kernel), List.mem_of_getElem? (i := 683) (by decide +kernel), List.mem_of_getElem? (i := 684) (by decide +kernel)⟩
theorem lw_p21 : lw_okq (⟨"CrossedFirst", "chancesOfFirst", "(III)I"⟩, 11) := ⟨⟨by decide +kernel, by decide +kernel⟩, List.mem_of_getElem? (i := 19) (by decide +kernel), List.mem_of_getElem? (i := 695) (by decide +kernel), List.mem_of_getElem? (i := 696) (by decide +kernel)⟩
theorem lw_p22 : lw_okq (⟨"CrossedFirst", "explains", "(II)Z"⟩, 11) := ⟨⟨by decide +kernel, by decide +kernel⟩, List.mem_of_getElem? (i := 19) (by decide +kernel), List.mem_of_getElem? (i := 722) (by decide +kernel), List.mem_of_getElem? (i := 723) (by decide +kernel)⟩
theorem lw_p23 : lw_okq (⟨"CrossedFirstModel", "firstBeast", "(IIIII)V"⟩, 34) := ⟨⟨by decide +kernel, by decide +kernel⟩, List.mem_of_getElem? (i := 771) (by decide +kernel), List.mem_of_getElem? (i := 777) (by decide +kernel), List.mem_of_getElem? (i := 778) (by decide +kernel)⟩
theorem lw_p24 : lw_okq (⟨"CrossedFirstModel", "anew", "()V"⟩, 34) := ⟨⟨by decide +kernel, by decide +kernel⟩, List.mem_of_getElem? (i := 771) (by decide +kernel), List.mem_of_getElem? (i := 781) (by decide +kernel), List.mem_of_getElem? (i := 782) (by decide +kernel)⟩
theorem lw_p25 : lw_okq (⟨"CrossedFirstModel", "readItem", "()V"⟩, 34) := ⟨⟨by decide +kernel, by decide +kernel⟩, List.mem_of_getElem? (i := 771) (by decide +kernel), List.mem_of_getElem? (i := 903) (by decide +kernel), List.mem_of_getElem? (i := 904) (by decide +kernel)⟩
theorem lw_p26 : lw_okq (⟨"CrossedFirstModel", "here", "()I"⟩, 34) := ⟨⟨by decide +kernel, by decide +kernel⟩, List.mem_of_getElem? (i := 771) (by decide +kernel), List.mem_of_getElem? (i := 907) (by decide +kernel), List.mem_of_getElem? (i := 908) (by decide +kernel)⟩
theorem lw_p27 : lw_okq (⟨"CrossedFirstModel", "readBeast", "()V"⟩, 34) := ⟨⟨by decide +kernel, by decide +kernel⟩, List.mem_of_getElem? (i := 771) (by decide +kernel), List.mem_of_getElem? (i := 911) (by decide +kernel), List.mem_of_getElem? (i := 912) (by decide +kernel)⟩
theorem lw_p28 : lw_okq (⟨"CrossedFirstModel", "number", "(III)I"⟩, 34) := ⟨⟨by decide +kernel, by decide +kernel⟩, List.mem_of_getElem? (i := 771) (by decide +kernel), List.mem_of_getElem? (i := 915) (by decide +kernel), List.mem_of_getElem? (i := 916) (by decide +kernel)⟩
theorem lw_p29 : lw_okq (⟨"CrossedFirstModel", "readCurrent", "()V"⟩, 34) := ⟨⟨by decide +kernel, by decide +kernel⟩, List.mem_of_getElem? (i := 771) (by decide +kernel), List.mem_of_getElem? (i := 919) (by decide +kernel), List.mem_of_getElem? (i := 920) (by decide +kernel)⟩
theorem lw_p30 : lw_okq (⟨"CrossedFirstModel", "told", "(I)I"⟩, 34) := ⟨⟨by decide +kernel, by decide +kernel⟩, List.mem_of_getElem? (i := 771) (by decide +kernel), List.mem_of_getElem? (i := 923) (by decide +kernel), List.mem_of_getElem? (i := 924) (by decide +kernel)⟩
theorem lw_p31 : lw_okq (⟨"CrossedFirstModel", "readRaft", "()V"⟩, 34) := ⟨⟨by decide +kernel, by decide +kernel⟩, List.mem_of_getElem? (i := 771) (by decide +kernel), List.mem_of_getElem? (i := 927) (by decide +kernel), List.mem_of_getElem? (i := 928) (by decide +kernel)⟩
def lw_privs_2 : List (MethodName × Nat) := [(⟨"CrossedFirst", "bearersOf", "(I)I"⟩, 11), (⟨"CrossedFirst$Bridge", "crossWidest", "(LCrossedFirst$Race;LCrossedFirst$River;I)V"⟩, 2), (⟨"CrossedFirst$Bridge", "offer", "(LCrossedFirst$River;III)V"⟩, 2), (⟨"CrossedFirst", "wouldRather", "(II)Z"⟩, 11), (⟨"CrossedFirst$Giving", "lowestFitting", "(LCrossedFirst$River;II)I"⟩, 1), (⟨"CrossedFirst", "chancesOfFirst", "(III)I"⟩, 11), (⟨"CrossedFirst", "explains", "(II)Z"⟩, 11), (⟨"CrossedFirstModel", "firstBeast", "(IIIII)V"⟩, 34), (⟨"CrossedFirstModel", "anew", "()V"⟩, 34), (⟨"CrossedFirstModel", "readItem", "()V"⟩, 34), (⟨"CrossedFirstModel", "here", "()I"⟩, 34), (⟨"CrossedFirstModel", "readBeast", "()V"⟩, 34), (⟨"CrossedFirstModel", "number", "(III)I"⟩, 34), (⟨"CrossedFirstModel", "readCurrent", "()V"⟩, 34), (⟨"CrossedFirstModel", "told", "(I)I"⟩, 34), (⟨"CrossedFirstModel", "readRaft", "()V"⟩, 34)]
theorem lw_r2 : ∀ q ∈ lw_privs_2, lw_okq q := List.forall_mem_cons.mpr ⟨lw_p16, List.forall_mem_cons.mpr ⟨lw_p17, List.forall_mem_cons.mpr ⟨lw_p18, List.forall_mem_cons.mpr ⟨lw_p19, List.forall_mem_cons.mpr ⟨lw_p20, List.forall_mem_cons.mpr ⟨lw_p21, List.forall_mem_cons.mpr ⟨lw_p22, List.forall_mem_cons.mpr ⟨lw_p23, List.forall_mem_cons.mpr ⟨lw_p24, List.forall_mem_cons.mpr ⟨lw_p25, List.forall_mem_cons.mpr ⟨lw_p26, List.forall_mem_cons.mpr ⟨lw_p27, List.forall_mem_cons.mpr ⟨lw_p28, List.forall_mem_cons.mpr ⟨lw_p29, List.forall_mem_cons.mpr ⟨lw_p30, List.forall_mem_cons.mpr ⟨lw_p31, fun _ h => absurd h List.not_mem_nil⟩⟩⟩⟩⟩⟩⟩⟩⟩⟩⟩⟩⟩⟩⟩⟩
theorem lw_p32 : lw_okq (⟨"CrossedFirstModel", "canBeLaid", "()Z"⟩, 34) := ⟨⟨by decide +kernel, by decide +kernel⟩, List.mem_of_getElem? (i := 771) (by decide +kernel), List.mem_of_getElem? (i := 936) (by decide +kernel), List.mem_of_getElem? (i := 937) (by decide +kernel)⟩
theorem lw_p33 : lw_okq (⟨"CrossedFirstModel", "isInRaft", "(II)Z"⟩, 34) := ⟨⟨by decide +kernel, by decide +kernel⟩, List.mem_of_getElem? (i := 771) (by decide +kernel), List.mem_of_getElem? (i := 940) (by decide +kernel), List.mem_of_getElem? (i := 941) (by decide +kernel)⟩
theorem lw_p34 : lw_okq (⟨"CrossedFirstModel", "isBeast", "(I)Z"⟩, 34) := ⟨⟨by decide +kernel, by decide +kernel⟩, List.mem_of_getElem? (i := 771) (by decide +kernel), List.mem_of_getElem? (i := 948) (by decide +kernel), List.mem_of_getElem? (i := 949) (by decide +kernel)⟩
theorem lw_p35 : lw_okq (⟨"CrossedFirstModel", "raftOf", "(I)I"⟩, 34) := ⟨⟨by decide +kernel, by decide +kernel⟩, List.mem_of_getElem? (i := 771) (by decide +kernel), List.mem_of_getElem? (i := 952) (by decide +kernel), List.mem_of_getElem? (i := 953) (by decide +kernel)⟩
theorem lw_p36 : lw_okq (⟨"CrossedFirstModel", "ahead", "(I)I"⟩, 34) := ⟨⟨by decide +kernel, by decide +kernel⟩, List.mem_of_getElem? (i := 771) (by decide +kernel), List.mem_of_getElem? (i := 956) (by decide +kernel), List.mem_of_getElem? (i := 957) (by decide +kernel)⟩
theorem lw_p37 : lw_okq (⟨"CrossedFirstModel", "currentIn", "(I)I"⟩, 34) := ⟨⟨by decide +kernel, by decide +kernel⟩, List.mem_of_getElem? (i := 771) (by decide +kernel), List.mem_of_getElem? (i := 964) (by decide +kernel), List.mem_of_getElem? (i := 965) (by decide +kernel)⟩
theorem lw_p38 : lw_okq (⟨"CrossedFirstModel", "plain", "()V"⟩, 34) := ⟨⟨by decide +kernel, by decide +kernel⟩, List.mem_of_getElem? (i := 771) (by decide +kernel), List.mem_of_getElem? (i := 972) (by decide +kernel), List.mem_of_getElem? (i := 973) (by decide +kernel)⟩
theorem lw_p39 : lw_okq (⟨"CrossedFirstModel", "cross", "(II)V"⟩, 34) := ⟨⟨by decide +kernel, by decide +kernel⟩, List.mem_of_getElem? (i := 771) (by decide +kernel), List.mem_of_getElem? (i := 976) (by decide +kernel), List.mem_of_getElem? (i := 977) (by decide +kernel)⟩
theorem lw_p40 : lw_okq (⟨"CrossedFirstModel", "takesIn", "(I)I"⟩, 34) := ⟨⟨by decide +kernel, by decide +kernel⟩, List.mem_of_getElem? (i := 771) (by decide +kernel), List.mem_of_getElem? (i := 980) (by decide +kernel), List.mem_of_getElem? (i := 981) (by decide +kernel)⟩
theorem lw_p41 : lw_okq (⟨"CrossedFirstModel", "hasHelp", "(II)Z"⟩, 34) := ⟨⟨by decide +kernel, by decide +kernel⟩, List.mem_of_getElem? (i := 771) (by decide +kernel), List.mem_of_getElem? (i := 988) (by decide +kernel), List.mem_of_getElem? (i := 989) (by decide +kernel)⟩
theorem lw_p42 : lw_okq (⟨"CrossedFirstModel", "strokeOf", "(IIIIZ)I"⟩, 34) := ⟨⟨by decide +kernel, by decide +kernel⟩, List.mem_of_getElem? (i := 771) (by decide +kernel), List.mem_of_getElem? (i := 992) (by decide +kernel), List.mem_of_getElem? (i := 993) (by decide +kernel)⟩
theorem lw_p43 : lw_okq (⟨"CrossedFirstModel", "raftStroke", "(IIII)I"⟩, 34) := ⟨⟨by decide +kernel, by decide +kernel⟩, List.mem_of_getElem? (i := 771) (by decide +kernel), List.mem_of_getElem? (i := 996) (by decide +kernel), List.mem_of_getElem? (i := 997) (by decide +kernel)⟩
theorem lw_p44 : lw_okq (⟨"CrossedFirstModel", "crossNow", "()V"⟩, 34) := ⟨⟨by decide +kernel, by decide +kernel⟩, List.mem_of_getElem? (i := 771) (by decide +kernel), List.mem_of_getElem? (i := 1004) (by decide +kernel), List.mem_of_getElem? (i := 1005) (by decide +kernel)⟩
theorem lw_p45 : lw_okq (⟨"CrossedFirstModel", "rankOf", "(II)I"⟩, 34) := ⟨⟨by decide +kernel, by decide +kernel⟩, List.mem_of_getElem? (i := 771) (by decide +kernel), List.mem_of_getElem? (i := 1012) (by decide +kernel), List.mem_of_getElem? (i := 1013) (by decide +kernel)⟩
theorem lw_p46 : lw_okq (⟨"CrossedFirstModel", "isAhead", "(III)Z"⟩, 34) := ⟨⟨by decide +kernel, by decide +kernel⟩, List.mem_of_getElem? (i := 771) (by decide +kernel), List.mem_of_getElem? (i := 1016) (by decide +kernel), List.mem_of_getElem? (i := 1017) (by decide +kernel)⟩
theorem lw_p47 : lw_okq (⟨"CrossedFirstModel", "rankedWith", "(II)I"⟩, 34) := ⟨⟨by decide +kernel, by decide +kernel⟩, List.mem_of_getElem? (i := 771) (by decide +kernel), List.mem_of_getElem? (i := 1020) (by decide +kernel), List.mem_of_getElem? (i := 1021) (by decide +kernel)⟩
def lw_privs_3 : List (MethodName × Nat) := [(⟨"CrossedFirstModel", "canBeLaid", "()Z"⟩, 34), (⟨"CrossedFirstModel", "isInRaft", "(II)Z"⟩, 34), (⟨"CrossedFirstModel", "isBeast", "(I)Z"⟩, 34), (⟨"CrossedFirstModel", "raftOf", "(I)I"⟩, 34), (⟨"CrossedFirstModel", "ahead", "(I)I"⟩, 34), (⟨"CrossedFirstModel", "currentIn", "(I)I"⟩, 34), (⟨"CrossedFirstModel", "plain", "()V"⟩, 34), (⟨"CrossedFirstModel", "cross", "(II)V"⟩, 34), (⟨"CrossedFirstModel", "takesIn", "(I)I"⟩, 34), (⟨"CrossedFirstModel", "hasHelp", "(II)Z"⟩, 34), (⟨"CrossedFirstModel", "strokeOf", "(IIIIZ)I"⟩, 34), (⟨"CrossedFirstModel", "raftStroke", "(IIII)I"⟩, 34), (⟨"CrossedFirstModel", "crossNow", "()V"⟩, 34), (⟨"CrossedFirstModel", "rankOf", "(II)I"⟩, 34), (⟨"CrossedFirstModel", "isAhead", "(III)Z"⟩, 34), (⟨"CrossedFirstModel", "rankedWith", "(II)I"⟩, 34)]
theorem lw_r3 : ∀ q ∈ lw_privs_3, lw_okq q := List.forall_mem_cons.mpr ⟨lw_p32, List.forall_mem_cons.mpr ⟨lw_p33, List.forall_mem_cons.mpr ⟨lw_p34, List.forall_mem_cons.mpr ⟨lw_p35, List.forall_mem_cons.mpr ⟨lw_p36, List.forall_mem_cons.mpr ⟨lw_p37, List.forall_mem_cons.mpr ⟨lw_p38, List.forall_mem_cons.mpr ⟨lw_p39, List.forall_mem_cons.mpr ⟨lw_p40, List.forall_mem_cons.mpr ⟨lw_p41, List.forall_mem_cons.mpr ⟨lw_p42, List.forall_mem_cons.mpr ⟨lw_p43, List.forall_mem_cons.mpr ⟨lw_p44, List.forall_mem_cons.mpr ⟨lw_p45, List.forall_mem_cons.mpr ⟨lw_p46, List.forall_mem_cons.mpr ⟨lw_p47, fun _ h => absurd h List.not_mem_nil⟩⟩⟩⟩⟩⟩⟩⟩⟩⟩⟩⟩⟩⟩⟩⟩
theorem lw_p48 : lw_okq (⟨"CrossedFirstModel", "findRanks", "(I)V"⟩, 34) := ⟨⟨by decide +kernel, by decide +kernel⟩, List.mem_of_getElem? (i := 771) (by decide +kernel), List.mem_of_getElem? (i := 1028) (by decide +kernel), List.mem_of_getElem? (i := 1029) (by decide +kernel)⟩
theorem lw_p49 : lw_okq (⟨"CrossedFirstModel", "know", "()V"⟩, 34) := ⟨⟨by decide +kernel, by decide +kernel⟩, List.mem_of_getElem? (i := 771) (by decide +kernel), List.mem_of_getElem? (i := 1036) (by decide +kernel), List.mem_of_getElem? (i := 1037) (by decide +kernel)⟩
theorem lw_p50 : lw_okq (⟨"CrossedFirstModel", "copy", "(II)V"⟩, 34) := ⟨⟨by decide +kernel, by decide +kernel⟩, List.mem_of_getElem? (i := 771) (by decide +kernel), List.mem_of_getElem? (i := 1040) (by decide +kernel), List.mem_of_getElem? (i := 1041) (by decide +kernel)⟩
theorem lw_p51 : lw_okq (⟨"CrossedFirstModel", "hasRider", "(I)Z"⟩, 34) := ⟨⟨by decide +kernel, by decide +kernel⟩, List.mem_of_getElem? (i := 771) (by decide +kernel), List.mem_of_getElem? (i := 1048) (by decide +kernel), List.mem_of_getElem? (i := 1049) (by decide +kernel)⟩
theorem lw_p52 : lw_okq (⟨"CrossedFirstModel", "rankTried", "(I)I"⟩, 34) := ⟨⟨by decide +kernel, by decide +kernel⟩, List.mem_of_getElem? (i := 771) (by decide +kernel), List.mem_of_getElem? (i := 1064) (by decide +kernel), List.mem_of_getElem? (i := 1065) (by decide +kernel)⟩
theorem lw_p53 : lw_okq (⟨"CrossedFirstModel", "firstOne", "(I)I"⟩, 34) := ⟨⟨by decide +kernel, by decide +kernel⟩, List.mem_of_getElem? (i := 771) (by decide +kernel), List.mem_of_getElem? (i := 1080) (by decide +kernel), List.mem_of_getElem? (i := 1081) (by decide +kernel)⟩
theorem lw_p54 : lw_okq (⟨"CrossedFirstModel", "findOrder", "()V"⟩, 34) := ⟨⟨by decide +kernel, by decide +kernel⟩, List.mem_of_getElem? (i := 771) (by decide +kernel), List.mem_of_getElem? (i := 1095) (by decide +kernel), List.mem_of_getElem? (i := 1096) (by decide +kernel)⟩
theorem lw_p55 : lw_okq (⟨"CrossedFirstModel", "fits", "(II)Z"⟩, 34) := ⟨⟨by decide +kernel, by decide +kernel⟩, List.mem_of_getElem? (i := 771) (by decide +kernel), List.mem_of_getElem? (i := 1119) (by decide +kernel), List.mem_of_getElem? (i := 1120) (by decide +kernel)⟩
def lw_privs_4 : List (MethodName × Nat) := [(⟨"CrossedFirstModel", "findRanks", "(I)V"⟩, 34), (⟨"CrossedFirstModel", "know", "()V"⟩, 34), (⟨"CrossedFirstModel", "copy", "(II)V"⟩, 34), (⟨"CrossedFirstModel", "hasRider", "(I)Z"⟩, 34), (⟨"CrossedFirstModel", "rankTried", "(I)I"⟩, 34), (⟨"CrossedFirstModel", "firstOne", "(I)I"⟩, 34), (⟨"CrossedFirstModel", "findOrder", "()V"⟩, 34), (⟨"CrossedFirstModel", "fits", "(II)Z"⟩, 34)]
theorem lw_r4 : ∀ q ∈ lw_privs_4, lw_okq q := List.forall_mem_cons.mpr ⟨lw_p48, List.forall_mem_cons.mpr ⟨lw_p49, List.forall_mem_cons.mpr ⟨lw_p50, List.forall_mem_cons.mpr ⟨lw_p51, List.forall_mem_cons.mpr ⟨lw_p52, List.forall_mem_cons.mpr ⟨lw_p53, List.forall_mem_cons.mpr ⟨lw_p54, List.forall_mem_cons.mpr ⟨lw_p55, fun _ h => absurd h List.not_mem_nil⟩⟩⟩⟩⟩⟩⟩⟩
def lw_privs : List (MethodName × Nat) := lw_privs_1 ++ (lw_privs_2 ++ (lw_privs_3 ++ (lw_privs_4)))
def lw_tbl : List Cond := k2_sels lw_privs ++ tables_1
theorem lw_privs_ok : ∀ q ∈ lw_privs, lw_okq q := by
  show ∀ q ∈ lw_privs_1 ++ (lw_privs_2 ++ (lw_privs_3 ++ (lw_privs_4))), lw_okq q
  exact List.forall_mem_append.mpr ⟨lw_r1, List.forall_mem_append.mpr ⟨lw_r2, List.forall_mem_append.mpr ⟨lw_r3, lw_r4⟩⟩⟩
/-! ===== BEGIN words of one list among another's, by their places ===== -/
theorem goodIn_r {big : List Cond} (ws : List Cond) (ps : List Nat) (hp : ws = ps.filterMap (fun i => big[i]?)) (h : ws.all goodWord = true) : GoodIn big ws := by
  intro w hw
  have h1 := List.all_eq_true.mp h w hw
  rw [hp] at hw
  obtain ⟨i, -, hi⟩ := List.mem_filterMap.mp hw
  have hm : w ∈ big := by first | exact List.mem_of_getElem? hi | exact List.getElem?_mem hi
  exact ⟨hm, good_of_word h1⟩
theorem goodIn_app {big a b : List Cond} (ha : GoodIn big a) (hb : GoodIn big b) : GoodIn big (a ++ b) := fun w h => (List.mem_append.mp h).elim (ha w) (hb w)
theorem goodIn_ca {big a b : List Cond} {c : Cond} (ha : GoodIn big (c :: a)) (hb : GoodIn big b) : GoodIn big (c :: (a ++ b)) := fun w h => (List.mem_cons.mp h).elim (fun e => ha w (List.mem_cons.mpr (Or.inl e))) (fun h => (List.mem_append.mp h).elim (fun h => ha w (List.mem_cons.mpr (Or.inr h))) (hb w))
theorem goodIn_sub {big ws : List Cond} (hm : ∀ w ∈ ws, w ∈ big) (h : ws.all goodWord = true) : GoodIn big ws := fun w hw => ⟨hm w hw, good_of_word (List.all_eq_true.mp h w hw)⟩
/-! ===== END ===== -/

/-! ===== BEGIN printed: names, fields, word lists, decode rows ===== -/
def RX0 : String := "CrossedFirst$Bridge"
def TX0 : u_T := fun k => match k with
  | 0 => ("CrossedFirst$Bridge", "minutes", "[I", true)
  | _ => ("CrossedFirst$Bridge", "firsts", "[I", true)
def tyX0 : Nat → FieldType := fun k => match k with
  | 0 => .array .int
  | _ => .array .int
abbrev wsX00 : List Cond := u_ws RX0 TX0 2
theorem nmX0 : ∀ a, a < 2 → ∀ b, b < 2 → a ≠ b → (TX0 a).2.1 ≠ (TX0 b).2.1 := by decide +kernel
theorem tyX0_ok : ∀ k, k < 2 → parseFieldDescriptor (TX0 k).2.2.1 = some (tyX0 k) := by decide +kernel
abbrev cX0_init : ByteArray := prog_2_method_1_code
def yX0_init : MethodName := ⟨RX0, "<init>", "()V"⟩
abbrev cX0_span : ByteArray := prog_2_method_2_code
def yX0_span : MethodName := ⟨RX0, "span", "(LCrossedFirst$Race;LCrossedFirst$River;)V"⟩
abbrev cX0_crossWidest : ByteArray := prog_2_method_3_code
def yX0_crossWidest : MethodName := ⟨RX0, "crossWidest", "(LCrossedFirst$Race;LCrossedFirst$River;I)V"⟩
abbrev cX0_offer : ByteArray := prog_2_method_4_code
def yX0_offer : MethodName := ⟨RX0, "offer", "(LCrossedFirst$River;III)V"⟩
abbrev cX0_firstBits : ByteArray := prog_2_method_5_code
def yX0_firstBits : MethodName := ⟨RX0, "firstBits", "()I"⟩
abbrev cX0_widthsOf : ByteArray := prog_2_method_6_code
def yX0_widthsOf : MethodName := ⟨RX0, "widthsOf", "(I)I"⟩
def RX1 : String := "CrossedFirst$Changes"
def TX1 : u_T := fun k => match k with
  | 0 => ("CrossedFirst$Changes", "changed", "[I", true)
  | 1 => ("CrossedFirst$Changes", "startsWere", "[I", true)
  | 2 => ("CrossedFirst$Changes", "carriersWere", "[I", true)
  | _ => ("CrossedFirst$Changes", "size", "I", false)
def tyX1 : Nat → FieldType := fun k => match k with
  | 0 => .array .int
  | 1 => .array .int
  | 2 => .array .int
  | _ => .int
abbrev wsX10 : List Cond := u_ws RX1 TX1 4
theorem nmX1 : ∀ a, a < 4 → ∀ b, b < 4 → a ≠ b → (TX1 a).2.1 ≠ (TX1 b).2.1 := by decide +kernel
theorem tyX1_ok : ∀ k, k < 4 → parseFieldDescriptor (TX1 k).2.2.1 = some (tyX1 k) := by decide +kernel
abbrev cX1_init : ByteArray := prog_3_method_1_code
def yX1_init : MethodName := ⟨RX1, "<init>", "()V"⟩
abbrev cX1_clear : ByteArray := prog_3_method_2_code
def yX1_clear : MethodName := ⟨RX1, "clear", "()V"⟩
abbrev cX1_note : ByteArray := prog_3_method_3_code
def yX1_note : MethodName := ⟨RX1, "note", "(LCrossedFirst$River;I)V"⟩
abbrev cX1_dropOldest : ByteArray := prog_3_method_4_code
def yX1_dropOldest : MethodName := ⟨RX1, "dropOldest", "()V"⟩
abbrev cX1_takeBack : ByteArray := prog_3_method_5_code
def yX1_takeBack : MethodName := ⟨RX1, "takeBack", "(LCrossedFirst$River;)Z"⟩
def RX2 : String := "CrossedFirst$Giving"
def TX2 : u_T := fun k => match k with
  | _ => ("CrossedFirst$Giving", "least", "[I", true)
def tyX2 : Nat → FieldType := fun k => match k with
  | _ => .array .int
abbrev wsX20 : List Cond := u_ws RX2 TX2 1
theorem nmX2 : ∀ a, a < 1 → ∀ b, b < 1 → a ≠ b → (TX2 a).2.1 ≠ (TX2 b).2.1 := by decide +kernel
theorem tyX2_ok : ∀ k, k < 1 → parseFieldDescriptor (TX2 k).2.2.1 = some (tyX2 k) := by decide +kernel
abbrev cX2_init : ByteArray := prog_4_method_1_code
def yX2_init : MethodName := ⟨RX2, "<init>", "()V"⟩
abbrev cX2_weigh : ByteArray := prog_4_method_2_code
def yX2_weigh : MethodName := ⟨RX2, "weigh", "(LCrossedFirst$River;)V"⟩
abbrev cX2_holder : ByteArray := prog_4_method_3_code
def yX2_holder : MethodName := ⟨RX2, "holder", "(LCrossedFirst$River;I)I"⟩
abbrev cX2_lowestFitting : ByteArray := prog_4_method_4_code
def yX2_lowestFitting : MethodName := ⟨RX2, "lowestFitting", "(LCrossedFirst$River;II)I"⟩
abbrev cX2_off : ByteArray := prog_4_method_5_code
def yX2_off : MethodName := ⟨RX2, "off", "(LCrossedFirst$River;II)I"⟩
def RX3 : String := "CrossedFirst$Kept"
def TX3 : u_T := fun k => match k with
  | 0 => ("CrossedFirst$Kept", "starts", "[I", true)
  | 1 => ("CrossedFirst$Kept", "carriers", "[I", true)
  | _ => ("CrossedFirst$Kept", "size", "I", false)
def tyX3 : Nat → FieldType := fun k => match k with
  | 0 => .array .int
  | 1 => .array .int
  | _ => .int
abbrev wsX30 : List Cond := u_ws RX3 TX3 3
theorem nmX3 : ∀ a, a < 3 → ∀ b, b < 3 → a ≠ b → (TX3 a).2.1 ≠ (TX3 b).2.1 := by decide +kernel
theorem tyX3_ok : ∀ k, k < 3 → parseFieldDescriptor (TX3 k).2.2.1 = some (tyX3 k) := by decide +kernel
abbrev cX3_init : ByteArray := prog_5_method_1_code
def yX3_init : MethodName := ⟨RX3, "<init>", "()V"⟩
abbrev cX3_clear : ByteArray := prog_5_method_2_code
def yX3_clear : MethodName := ⟨RX3, "clear", "()V"⟩
abbrev cX3_push : ByteArray := prog_5_method_3_code
def yX3_push : MethodName := ⟨RX3, "push", "(LCrossedFirst$River;)Z"⟩
abbrev cX3_pop : ByteArray := prog_5_method_4_code
def yX3_pop : MethodName := ⟨RX3, "pop", "(LCrossedFirst$River;)Z"⟩
def RX4 : String := "CrossedFirst$Race"
def TX4 : u_T := fun k => match k with
  | 0 => ("CrossedFirst$Race", "starts", "[I", true)
  | 1 => ("CrossedFirst$Race", "carriers", "[I", true)
  | 2 => ("CrossedFirst$Race", "landings", "[I", true)
  | 3 => ("CrossedFirst$Race", "ranks", "[I", true)
  | 4 => ("CrossedFirst$Race", "byRank", "[I", true)
  | 5 => ("CrossedFirst$Race", "drawn", "[I", true)
  | 6 => ("CrossedFirst$Race", "over", "LCrossedFirst$River;", false)
  | 7 => ("CrossedFirst$Race", "flow", "[I", false)
  | 8 => ("CrossedFirst$Race", "width", "I", false)
  | 9 => ("CrossedFirst$Race", "floods", "I", false)
  | 10 => ("CrossedFirst$Race", "helpFrom", "I", false)
  | 11 => ("CrossedFirst$Race", "pull", "I", false)
  | 12 => ("CrossedFirst$Race", "kind", "I", false)
  | 13 => ("CrossedFirst$Race", "from", "I", false)
  | _ => ("CrossedFirst$Race", "far", "I", false)
def tyX4 : Nat → FieldType := fun k => match k with
  | 0 => .array .int
  | 1 => .array .int
  | 2 => .array .int
  | 3 => .array .int
  | 4 => .array .int
  | 5 => .array .int
  | 6 => .object "CrossedFirst$River"
  | 7 => .array .int
  | 8 => .int
  | 9 => .int
  | 10 => .int
  | 11 => .int
  | 12 => .int
  | 13 => .int
  | _ => .int
abbrev wsX40 : List Cond := u_ws RX4 TX4 15
theorem nmX4 : ∀ a, a < 15 → ∀ b, b < 15 → a ≠ b → (TX4 a).2.1 ≠ (TX4 b).2.1 := by decide +kernel
theorem tyX4_ok : ∀ k, k < 15 → parseFieldDescriptor (TX4 k).2.2.1 = some (tyX4 k) := by decide +kernel
abbrev cX4_init : ByteArray := prog_6_method_1_code
def yX4_init : MethodName := ⟨RX4, "<init>", "(LCrossedFirst$River;)V"⟩
abbrev cX4_prepare : ByteArray := prog_6_method_2_code
def yX4_prepare : MethodName := ⟨RX4, "prepare", "(LCrossedFirst$River;)V"⟩
abbrev cX4_unseatAll : ByteArray := prog_6_method_3_code
def yX4_unseatAll : MethodName := ⟨RX4, "unseatAll", "()V"⟩
abbrev cX4_drawFlow : ByteArray := prog_6_method_4_code
def yX4_drawFlow : MethodName := ⟨RX4, "drawFlow", "(I)V"⟩
abbrev cX4_run : ByteArray := prog_6_method_5_code
def yX4_run : MethodName := ⟨RX4, "run", "()V"⟩
abbrev cX4_mount : ByteArray := prog_6_method_6_code
def yX4_mount : MethodName := ⟨RX4, "mount", "(I)V"⟩
abbrev cX4_mountBeast : ByteArray := prog_6_method_7_code
def yX4_mountBeast : MethodName := ⟨RX4, "mountBeast", "(I)V"⟩
abbrev cX4_mountRaft : ByteArray := prog_6_method_8_code
def yX4_mountRaft : MethodName := ⟨RX4, "mountRaft", "(I)V"⟩
abbrev cX4_earliestHelp : ByteArray := prog_6_method_9_code
def yX4_earliestHelp : MethodName := ⟨RX4, "earliestHelp", "()I"⟩
abbrev cX4_moveUntil : ByteArray := prog_6_method_10_code
def yX4_moveUntil : MethodName := ⟨RX4, "moveUntil", "(I)I"⟩
abbrev cX4_yardsIn : ByteArray := prog_6_method_11_code
def yX4_yardsIn : MethodName := ⟨RX4, "yardsIn", "(I)I"⟩
abbrev cX4_takenIn : ByteArray := prog_6_method_12_code
def yX4_takenIn : MethodName := ⟨RX4, "takenIn", "(I)I"⟩
abbrev cX4_isAhead : ByteArray := prog_6_method_13_code
def yX4_isAhead : MethodName := ⟨RX4, "isAhead", "(II)Z"⟩
abbrev cX4_leader : ByteArray := prog_6_method_14_code
def yX4_leader : MethodName := ⟨RX4, "leader", "(I)I"⟩
abbrev cX4_firstRiderOrSelf : ByteArray := prog_6_method_15_code
def yX4_firstRiderOrSelf : MethodName := ⟨RX4, "firstRiderOrSelf", "(I)I"⟩
abbrev cX4_lastLanding : ByteArray := prog_6_method_16_code
def yX4_lastLanding : MethodName := ⟨RX4, "lastLanding", "()I"⟩
def RX5 : String := "CrossedFirst$Reader"
def TX5 : u_T := fun k => match k with
  | 0 => ("CrossedFirst$Reader", "numbers", "[I", true)
  | _ => ("CrossedFirst$Reader", "behind", "I", false)
def tyX5 : Nat → FieldType := fun k => match k with
  | 0 => .array .int
  | _ => .int
abbrev wsX50 : List Cond := u_ws RX5 TX5 2
theorem nmX5 : ∀ a, a < 2 → ∀ b, b < 2 → a ≠ b → (TX5 a).2.1 ≠ (TX5 b).2.1 := by decide +kernel
theorem tyX5_ok : ∀ k, k < 2 → parseFieldDescriptor (TX5 k).2.2.1 = some (tyX5 k) := by decide +kernel
abbrev cX5_init : ByteArray := prog_7_method_1_code
def yX5_init : MethodName := ⟨RX5, "<init>", "()V"⟩
abbrev cX5_readText : ByteArray := prog_7_method_2_code
def yX5_readText : MethodName := ⟨RX5, "readText", "([CILCrossedFirst$River;)I"⟩
abbrev cX5_readItem : ByteArray := prog_7_method_3_code
def yX5_readItem : MethodName := ⟨RX5, "readItem", "([CII)Z"⟩
abbrev cX5_readNumber : ByteArray := prog_7_method_4_code
def yX5_readNumber : MethodName := ⟨RX5, "readNumber", "([CII)Z"⟩
abbrev cX5_numbersBehind : ByteArray := prog_7_method_5_code
def yX5_numbersBehind : MethodName := ⟨RX5, "numbersBehind", "(I)I"⟩
abbrev cX5_tell : ByteArray := prog_7_method_6_code
def yX5_tell : MethodName := ⟨RX5, "tell", "(ILCrossedFirst$River;)Z"⟩
def RX6 : String := "CrossedFirst$River"
def TX6 : u_T := fun k => match k with
  | 0 => ("CrossedFirst$River", "strokes", "[I", true)
  | 1 => ("CrossedFirst$River", "weights", "[I", true)
  | 2 => ("CrossedFirst$River", "kinds", "[I", true)
  | 3 => ("CrossedFirst$River", "starts", "[I", true)
  | 4 => ("CrossedFirst$River", "carriers", "[I", true)
  | 5 => ("CrossedFirst$River", "rafts", "[I", true)
  | 6 => ("CrossedFirst$River", "voices", "[I", true)
  | 7 => ("CrossedFirst$River", "wants", "[I", true)
  | 8 => ("CrossedFirst$River", "harvests", "[I", true)
  | 9 => ("CrossedFirst$River", "currentsFrom", "[I", true)
  | 10 => ("CrossedFirst$River", "currentsTake", "[I", true)
  | 11 => ("CrossedFirst$River", "flow", "[I", true)
  | 12 => ("CrossedFirst$River", "beasts", "I", false)
  | 13 => ("CrossedFirst$River", "width", "I", false)
  | 14 => ("CrossedFirst$River", "currents", "I", false)
  | 15 => ("CrossedFirst$River", "raftsTold", "I", false)
  | 16 => ("CrossedFirst$River", "voicesTold", "I", false)
  | _ => ("CrossedFirst$River", "sharedByRafts", "Z", false)
def tyX6 : Nat → FieldType := fun k => match k with
  | 0 => .array .int
  | 1 => .array .int
  | 2 => .array .int
  | 3 => .array .int
  | 4 => .array .int
  | 5 => .array .int
  | 6 => .array .int
  | 7 => .array .int
  | 8 => .array .int
  | 9 => .array .int
  | 10 => .array .int
  | 11 => .array .int
  | 12 => .int
  | 13 => .int
  | 14 => .int
  | 15 => .int
  | 16 => .int
  | _ => .boolean
abbrev wsX60 : List Cond := u_ws RX6 TX6 18
theorem nmX6 : ∀ a, a < 18 → ∀ b, b < 18 → a ≠ b → (TX6 a).2.1 ≠ (TX6 b).2.1 := by decide +kernel
theorem tyX6_ok : ∀ k, k < 18 → parseFieldDescriptor (TX6 k).2.2.1 = some (tyX6 k) := by decide +kernel
abbrev cX6_init : ByteArray := prog_8_method_1_code
def yX6_init : MethodName := ⟨RX6, "<init>", "()V"⟩
abbrev cX6_clear : ByteArray := prog_8_method_2_code
def yX6_clear : MethodName := ⟨RX6, "clear", "()V"⟩
abbrev cX6_has : ByteArray := prog_8_method_3_code
def yX6_has : MethodName := ⟨RX6, "has", "(I)Z"⟩
abbrev cX6_addBeast : ByteArray := prog_8_method_4_code
def yX6_addBeast : MethodName := ⟨RX6, "addBeast", "(IIII)Z"⟩
abbrev cX6_setWidth : ByteArray := prog_8_method_5_code
def yX6_setWidth : MethodName := ⟨RX6, "setWidth", "(I)Z"⟩
abbrev cX6_addCurrent : ByteArray := prog_8_method_6_code
def yX6_addCurrent : MethodName := ⟨RX6, "addCurrent", "(II)Z"⟩
abbrev cX6_setCarrier : ByteArray := prog_8_method_7_code
def yX6_setCarrier : MethodName := ⟨RX6, "setCarrier", "(II)Z"⟩
abbrev cX6_addRaft : ByteArray := prog_8_method_8_code
def yX6_addRaft : MethodName := ⟨RX6, "addRaft", "(III)Z"⟩
abbrev cX6_putOnRaft : ByteArray := prog_8_method_9_code
def yX6_putOnRaft : MethodName := ⟨RX6, "putOnRaft", "(I)V"⟩
abbrev cX6_addVoice : ByteArray := prog_8_method_10_code
def yX6_addVoice : MethodName := ⟨RX6, "addVoice", "(I)Z"⟩
abbrev cX6_setWant : ByteArray := prog_8_method_11_code
def yX6_setWant : MethodName := ⟨RX6, "setWant", "(II)Z"⟩
abbrev cX6_setHarvest : ByteArray := prog_8_method_12_code
def yX6_setHarvest : MethodName := ⟨RX6, "setHarvest", "(II)Z"⟩
abbrev cX6_canBeLaid : ByteArray := prog_8_method_13_code
def yX6_canBeLaid : MethodName := ⟨RX6, "canBeLaid", "()Z"⟩
abbrev cX6_settle : ByteArray := prog_8_method_14_code
def yX6_settle : MethodName := ⟨RX6, "settle", "()V"⟩
abbrev cX6_takenFrom : ByteArray := prog_8_method_15_code
def yX6_takenFrom : MethodName := ⟨RX6, "takenFrom", "(I)I"⟩
abbrev cX6_isRidden : ByteArray := prog_8_method_16_code
def yX6_isRidden : MethodName := ⟨RX6, "isRidden", "(I)Z"⟩
abbrev cX6_riders : ByteArray := prog_8_method_17_code
def yX6_riders : MethodName := ⟨RX6, "riders", "()I"⟩
def RX7 : String := "CrossedFirst$Sightings"
def TX7 : u_T := fun k => match k with
  | 0 => ("CrossedFirst$Sightings", "sighted", "[I", true)
  | 1 => ("CrossedFirst$Sightings", "ranks", "[I", true)
  | _ => ("CrossedFirst$Sightings", "size", "I", false)
def tyX7 : Nat → FieldType := fun k => match k with
  | 0 => .array .int
  | 1 => .array .int
  | _ => .int
abbrev wsX70 : List Cond := u_ws RX7 TX7 3
theorem nmX7 : ∀ a, a < 3 → ∀ b, b < 3 → a ≠ b → (TX7 a).2.1 ≠ (TX7 b).2.1 := by decide +kernel
theorem tyX7_ok : ∀ k, k < 3 → parseFieldDescriptor (TX7 k).2.2.1 = some (tyX7 k) := by decide +kernel
abbrev cX7_init : ByteArray := prog_9_method_1_code
def yX7_init : MethodName := ⟨RX7, "<init>", "()V"⟩
abbrev cX7_clear : ByteArray := prog_9_method_2_code
def yX7_clear : MethodName := ⟨RX7, "clear", "()V"⟩
abbrev cX7_add : ByteArray := prog_9_method_3_code
def yX7_add : MethodName := ⟨RX7, "add", "(II)Z"⟩
abbrev cX7_agreeWith : ByteArray := prog_9_method_4_code
def yX7_agreeWith : MethodName := ⟨RX7, "agreeWith", "(LCrossedFirst$Race;)Z"⟩
def RX8 : String := "CrossedFirst"
def TX8 : u_T := fun k => match k with
  | 0 => ("CrossedFirst", "letters", "[C", true)
  | 1 => ("CrossedFirst", "length", "I", false)
  | 2 => ("CrossedFirst", "reader", "LCrossedFirst$Reader;", true)
  | 3 => ("CrossedFirst", "laid", "LCrossedFirst$River;", false)
  | 4 => ("CrossedFirst", "spare", "LCrossedFirst$River;", false)
  | 5 => ("CrossedFirst", "race", "LCrossedFirst$Race;", true)
  | 6 => ("CrossedFirst", "changes", "LCrossedFirst$Changes;", true)
  | 7 => ("CrossedFirst", "kept", "LCrossedFirst$Kept;", true)
  | 8 => ("CrossedFirst", "sightings", "LCrossedFirst$Sightings;", true)
  | 9 => ("CrossedFirst", "spans", "LCrossedFirst$Bridge;", true)
  | _ => ("CrossedFirst", "giving", "LCrossedFirst$Giving;", true)
def tyX8 : Nat → FieldType := fun k => match k with
  | 0 => .array .char
  | 1 => .int
  | 2 => .object "CrossedFirst$Reader"
  | 3 => .object "CrossedFirst$River"
  | 4 => .object "CrossedFirst$River"
  | 5 => .object "CrossedFirst$Race"
  | 6 => .object "CrossedFirst$Changes"
  | 7 => .object "CrossedFirst$Kept"
  | 8 => .object "CrossedFirst$Sightings"
  | 9 => .object "CrossedFirst$Bridge"
  | _ => .object "CrossedFirst$Giving"
abbrev wsX80 : List Cond := u_ws RX8 TX8 11
theorem nmX8 : ∀ a, a < 11 → ∀ b, b < 11 → a ≠ b → (TX8 a).2.1 ≠ (TX8 b).2.1 := by decide +kernel
theorem tyX8_ok : ∀ k, k < 11 → parseFieldDescriptor (TX8 k).2.2.1 = some (tyX8 k) := by decide +kernel
abbrev cX8_init : ByteArray := prog_1_method_1_code
def yX8_init : MethodName := ⟨RX8, "<init>", "()V"⟩
abbrev cX8_write : ByteArray := prog_1_method_2_code
def yX8_write : MethodName := ⟨RX8, "write", "(I)I"⟩
abbrev cX8_wipe : ByteArray := prog_1_method_3_code
def yX8_wipe : MethodName := ⟨RX8, "wipe", "()I"⟩
abbrev cX8_fault : ByteArray := prog_1_method_4_code
def yX8_fault : MethodName := ⟨RX8, "fault", "()I"⟩
abbrev cX8_lay : ByteArray := prog_1_method_5_code
def yX8_lay : MethodName := ⟨RX8, "lay", "()I"⟩
abbrev cX8_beast : ByteArray := prog_1_method_6_code
def yX8_beast : MethodName := ⟨RX8, "beast", "(II)I"⟩
abbrev cX8_current : ByteArray := prog_1_method_7_code
def yX8_current : MethodName := ⟨RX8, "current", "(I)I"⟩
abbrev cX8_where : ByteArray := prog_1_method_8_code
def yX8_where : MethodName := ⟨RX8, "where", "(II)I"⟩
abbrev cX8_lands : ByteArray := prog_1_method_9_code
def yX8_lands : MethodName := ⟨RX8, "lands", "(I)I"⟩
abbrev cX8_rank : ByteArray := prog_1_method_10_code
def yX8_rank : MethodName := ⟨RX8, "rank", "(I)I"⟩
abbrev cX8_who : ByteArray := prog_1_method_11_code
def yX8_who : MethodName := ⟨RX8, "who", "(I)I"⟩
abbrev cX8_start : ByteArray := prog_1_method_12_code
def yX8_start : MethodName := ⟨RX8, "start", "(II)I"⟩
abbrev cX8_ride : ByteArray := prog_1_method_13_code
def yX8_ride : MethodName := ⟨RX8, "ride", "(II)I"⟩
abbrev cX8_leave : ByteArray := prog_1_method_14_code
def yX8_leave : MethodName := ⟨RX8, "leave", "(I)I"⟩
abbrev cX8_undo : ByteArray := prog_1_method_15_code
def yX8_undo : MethodName := ⟨RX8, "undo", "()I"⟩
abbrev cX8_late : ByteArray := prog_1_method_16_code
def yX8_late : MethodName := ⟨RX8, "late", "(I)I"⟩
abbrev cX8_back : ByteArray := prog_1_method_17_code
def yX8_back : MethodName := ⟨RX8, "back", "(II)I"⟩
abbrev cX8_twos : ByteArray := prog_1_method_18_code
def yX8_twos : MethodName := ⟨RX8, "twos", "()I"⟩
abbrev cX8_bridge : ByteArray := prog_1_method_19_code
def yX8_bridge : MethodName := ⟨RX8, "bridge", "(I)I"⟩
abbrev cX8_calm : ByteArray := prog_1_method_20_code
def yX8_calm : MethodName := ⟨RX8, "calm", "(I)I"⟩
abbrev cX8_order : ByteArray := prog_1_method_21_code
def yX8_order : MethodName := ⟨RX8, "order", "(I)I"⟩
abbrev cX8_harvest : ByteArray := prog_1_method_22_code
def yX8_harvest : MethodName := ⟨RX8, "harvest", "(I)I"⟩
abbrev cX8_odds : ByteArray := prog_1_method_23_code
def yX8_odds : MethodName := ⟨RX8, "odds", "(IIII)I"⟩
abbrev cX8_seen : ByteArray := prog_1_method_24_code
def yX8_seen : MethodName := ⟨RX8, "seen", "(II)I"⟩
abbrev cX8_forget : ByteArray := prog_1_method_25_code
def yX8_forget : MethodName := ⟨RX8, "forget", "()I"⟩
abbrev cX8_rides : ByteArray := prog_1_method_26_code
def yX8_rides : MethodName := ⟨RX8, "rides", "(I)I"⟩
abbrev cX8_river : ByteArray := prog_1_method_27_code
def yX8_river : MethodName := ⟨RX8, "river", "(II)I"⟩
abbrev cX8_keep : ByteArray := prog_1_method_28_code
def yX8_keep : MethodName := ⟨RX8, "keep", "()I"⟩
abbrev cX8_restore : ByteArray := prog_1_method_29_code
def yX8_restore : MethodName := ⟨RX8, "restore", "()I"⟩
abbrev cX8_count : ByteArray := prog_1_method_30_code
def yX8_count : MethodName := ⟨RX8, "count", "(I)I"⟩
abbrev cX8_firstRiver : ByteArray := prog_1_method_31_code
def yX8_firstRiver : MethodName := ⟨RX8, "firstRiver", "()LCrossedFirst$River;"⟩
abbrev cX8_within : ByteArray := prog_1_method_32_code
def yX8_within : MethodName := ⟨RX8, "within", "(III)Z"⟩
abbrev cX8_commonDivisor : ByteArray := prog_1_method_33_code
def yX8_commonDivisor : MethodName := ⟨RX8, "commonDivisor", "(II)I"⟩
abbrev cX8_raceAsItIs : ByteArray := prog_1_method_34_code
def yX8_raceAsItIs : MethodName := ⟨RX8, "raceAsItIs", "()V"⟩
abbrev cX8_changeCarrier : ByteArray := prog_1_method_35_code
def yX8_changeCarrier : MethodName := ⟨RX8, "changeCarrier", "(II)I"⟩
abbrev cX8_rankRidingOn : ByteArray := prog_1_method_36_code
def yX8_rankRidingOn : MethodName := ⟨RX8, "rankRidingOn", "(II)I"⟩
abbrev cX8_lightOnes : ByteArray := prog_1_method_37_code
def yX8_lightOnes : MethodName := ⟨RX8, "lightOnes", "(I)I"⟩
abbrev cX8_bearersOf : ByteArray := prog_1_method_38_code
def yX8_bearersOf : MethodName := ⟨RX8, "bearersOf", "(I)I"⟩
abbrev cX8_wouldRather : ByteArray := prog_1_method_39_code
def yX8_wouldRather : MethodName := ⟨RX8, "wouldRather", "(II)Z"⟩
abbrev cX8_chancesOfFirst : ByteArray := prog_1_method_40_code
def yX8_chancesOfFirst : MethodName := ⟨RX8, "chancesOfFirst", "(III)I"⟩
abbrev cX8_explains : ByteArray := prog_1_method_41_code
def yX8_explains : MethodName := ⟨RX8, "explains", "(II)Z"⟩
def RX9 : String := "CrossedFirstModel"
def TX9 : u_T := fun k => match k with
  | 0 => ("CrossedFirstModel", "text", "[B", true)
  | 1 => ("CrossedFirstModel", "typed", "I", false)
  | 2 => ("CrossedFirstModel", "many", "[I", true)
  | 3 => ("CrossedFirstModel", "strokes", "[I", true)
  | 4 => ("CrossedFirstModel", "weight", "[I", true)
  | 5 => ("CrossedFirstModel", "kind", "[I", true)
  | 6 => ("CrossedFirstModel", "begins", "[I", true)
  | 7 => ("CrossedFirstModel", "wide", "[I", true)
  | 8 => ("CrossedFirstModel", "currents", "[I", true)
  | 9 => ("CrossedFirstModel", "currentFrom", "[I", true)
  | 10 => ("CrossedFirstModel", "currentTakes", "[I", true)
  | 11 => ("CrossedFirstModel", "mount", "[I", true)
  | 12 => ("CrossedFirstModel", "rafts", "[I", true)
  | 13 => ("CrossedFirstModel", "raft", "[I", true)
  | 14 => ("CrossedFirstModel", "spoken", "[I", true)
  | 15 => ("CrossedFirstModel", "speakers", "[I", true)
  | 16 => ("CrossedFirstModel", "wants", "[I", true)
  | 17 => ("CrossedFirstModel", "yields", "[I", true)
  | 18 => ("CrossedFirstModel", "at", "I", false)
  | 19 => ("CrossedFirstModel", "isSo", "Z", false)
  | 20 => ("CrossedFirstModel", "now", "[I", true)
  | 21 => ("CrossedFirstModel", "deeds", "I", false)
  | 22 => ("CrossedFirstModel", "kept", "I", false)
  | 23 => ("CrossedFirstModel", "span", "I", false)
  | 24 => ("CrossedFirstModel", "floods", "I", false)
  | 25 => ("CrossedFirstModel", "riverBy", "I", false)
  | 26 => ("CrossedFirstModel", "far", "[I", true)
  | 27 => ("CrossedFirstModel", "landed", "[I", true)
  | 28 => ("CrossedFirstModel", "ranked", "[I", true)
  | 29 => ("CrossedFirstModel", "pairs", "[I", true)
  | 30 => ("CrossedFirstModel", "offs", "[I", true)
  | 31 => ("CrossedFirstModel", "seenOf", "[I", true)
  | 32 => ("CrossedFirstModel", "seenRank", "[I", true)
  | _ => ("CrossedFirstModel", "seenMany", "I", false)
def tyX9 : Nat → FieldType := fun k => match k with
  | 0 => .array .byte
  | 1 => .int
  | 2 => .array .int
  | 3 => .array .int
  | 4 => .array .int
  | 5 => .array .int
  | 6 => .array .int
  | 7 => .array .int
  | 8 => .array .int
  | 9 => .array .int
  | 10 => .array .int
  | 11 => .array .int
  | 12 => .array .int
  | 13 => .array .int
  | 14 => .array .int
  | 15 => .array .int
  | 16 => .array .int
  | 17 => .array .int
  | 18 => .int
  | 19 => .boolean
  | 20 => .array .int
  | 21 => .int
  | 22 => .int
  | 23 => .int
  | 24 => .int
  | 25 => .int
  | 26 => .array .int
  | 27 => .array .int
  | 28 => .array .int
  | 29 => .array .int
  | 30 => .array .int
  | 31 => .array .int
  | 32 => .array .int
  | _ => .int
abbrev wsX90 : List Cond := u_ws RX9 TX9 34
theorem nmX9 : ∀ a, a < 34 → ∀ b, b < 34 → a ≠ b → (TX9 a).2.1 ≠ (TX9 b).2.1 := by decide +kernel
theorem tyX9_ok : ∀ k, k < 34 → parseFieldDescriptor (TX9 k).2.2.1 = some (tyX9 k) := by decide +kernel
abbrev cX9_init : ByteArray := prog_11_method_1_code
def yX9_init : MethodName := ⟨RX9, "<init>", "()V"⟩
abbrev cX9_firstBeast : ByteArray := prog_11_method_2_code
def yX9_firstBeast : MethodName := ⟨RX9, "firstBeast", "(IIIII)V"⟩
abbrev cX9_in : ByteArray := prog_11_method_4_code
def yX9_in : MethodName := ⟨RX9, "in", "(III)Z"⟩
abbrev cX9_write : ByteArray := prog_11_method_5_code
def yX9_write : MethodName := ⟨RX9, "write", "(I)I"⟩
abbrev cX9_wipe : ByteArray := prog_11_method_6_code
def yX9_wipe : MethodName := ⟨RX9, "wipe", "()I"⟩
abbrev cX9_here : ByteArray := prog_11_method_7_code
def yX9_here : MethodName := ⟨RX9, "here", "()I"⟩
abbrev cX9_number : ByteArray := prog_11_method_8_code
def yX9_number : MethodName := ⟨RX9, "number", "(III)I"⟩
abbrev cX9_told : ByteArray := prog_11_method_9_code
def yX9_told : MethodName := ⟨RX9, "told", "(I)I"⟩
abbrev cX9_readBeast : ByteArray := prog_11_method_10_code
def yX9_readBeast : MethodName := ⟨RX9, "readBeast", "()V"⟩
abbrev cX9_readRaft : ByteArray := prog_11_method_11_code
def yX9_readRaft : MethodName := ⟨RX9, "readRaft", "()V"⟩
abbrev cX9_readCurrent : ByteArray := prog_11_method_12_code
def yX9_readCurrent : MethodName := ⟨RX9, "readCurrent", "()V"⟩
abbrev cX9_readItem : ByteArray := prog_11_method_13_code
def yX9_readItem : MethodName := ⟨RX9, "readItem", "()V"⟩
abbrev cX9_fault : ByteArray := prog_11_method_14_code
def yX9_fault : MethodName := ⟨RX9, "fault", "()I"⟩
abbrev cX9_isInRaft : ByteArray := prog_11_method_15_code
def yX9_isInRaft : MethodName := ⟨RX9, "isInRaft", "(II)Z"⟩
abbrev cX9_canBeLaid : ByteArray := prog_11_method_16_code
def yX9_canBeLaid : MethodName := ⟨RX9, "canBeLaid", "()Z"⟩
abbrev cX9_lay : ByteArray := prog_11_method_17_code
def yX9_lay : MethodName := ⟨RX9, "lay", "()I"⟩
abbrev cX9_anew : ByteArray := prog_11_method_18_code
def yX9_anew : MethodName := ⟨RX9, "anew", "()V"⟩
abbrev cX9_copy : ByteArray := prog_11_method_19_code
def yX9_copy : MethodName := ⟨RX9, "copy", "(II)V"⟩
abbrev cX9_isBeast : ByteArray := prog_11_method_20_code
def yX9_isBeast : MethodName := ⟨RX9, "isBeast", "(I)Z"⟩
abbrev cX9_ahead : ByteArray := prog_11_method_21_code
def yX9_ahead : MethodName := ⟨RX9, "ahead", "(I)I"⟩
abbrev cX9_raftOf : ByteArray := prog_11_method_22_code
def yX9_raftOf : MethodName := ⟨RX9, "raftOf", "(I)I"⟩
abbrev cX9_beast : ByteArray := prog_11_method_23_code
def yX9_beast : MethodName := ⟨RX9, "beast", "(II)I"⟩
abbrev cX9_currentIn : ByteArray := prog_11_method_24_code
def yX9_currentIn : MethodName := ⟨RX9, "currentIn", "(I)I"⟩
abbrev cX9_current : ByteArray := prog_11_method_25_code
def yX9_current : MethodName := ⟨RX9, "current", "(I)I"⟩
abbrev cX9_takesIn : ByteArray := prog_11_method_26_code
def yX9_takesIn : MethodName := ⟨RX9, "takesIn", "(I)I"⟩
abbrev cX9_hasHelp : ByteArray := prog_11_method_27_code
def yX9_hasHelp : MethodName := ⟨RX9, "hasHelp", "(II)Z"⟩
abbrev cX9_strokeOf : ByteArray := prog_11_method_28_code
def yX9_strokeOf : MethodName := ⟨RX9, "strokeOf", "(IIIIZ)I"⟩
abbrev cX9_raftStroke : ByteArray := prog_11_method_29_code
def yX9_raftStroke : MethodName := ⟨RX9, "raftStroke", "(IIII)I"⟩
abbrev cX9_cross : ByteArray := prog_11_method_30_code
def yX9_cross : MethodName := ⟨RX9, "cross", "(II)V"⟩
abbrev cX9_plain : ByteArray := prog_11_method_31_code
def yX9_plain : MethodName := ⟨RX9, "plain", "()V"⟩
abbrev cX9_crossNow : ByteArray := prog_11_method_32_code
def yX9_crossNow : MethodName := ⟨RX9, "crossNow", "()V"⟩
abbrev cX9_where : ByteArray := prog_11_method_33_code
def yX9_where : MethodName := ⟨RX9, "where", "(II)I"⟩
abbrev cX9_lands : ByteArray := prog_11_method_34_code
def yX9_lands : MethodName := ⟨RX9, "lands", "(I)I"⟩
abbrev cX9_rankedWith : ByteArray := prog_11_method_35_code
def yX9_rankedWith : MethodName := ⟨RX9, "rankedWith", "(II)I"⟩
abbrev cX9_isAhead : ByteArray := prog_11_method_36_code
def yX9_isAhead : MethodName := ⟨RX9, "isAhead", "(III)Z"⟩
abbrev cX9_rankOf : ByteArray := prog_11_method_37_code
def yX9_rankOf : MethodName := ⟨RX9, "rankOf", "(II)I"⟩
abbrev cX9_findRanks : ByteArray := prog_11_method_38_code
def yX9_findRanks : MethodName := ⟨RX9, "findRanks", "(I)V"⟩
abbrev cX9_rank : ByteArray := prog_11_method_39_code
def yX9_rank : MethodName := ⟨RX9, "rank", "(I)I"⟩
abbrev cX9_who : ByteArray := prog_11_method_40_code
def yX9_who : MethodName := ⟨RX9, "who", "(I)I"⟩
abbrev cX9_know : ByteArray := prog_11_method_41_code
def yX9_know : MethodName := ⟨RX9, "know", "()V"⟩
abbrev cX9_start : ByteArray := prog_11_method_42_code
def yX9_start : MethodName := ⟨RX9, "start", "(II)I"⟩
abbrev cX9_hasRider : ByteArray := prog_11_method_43_code
def yX9_hasRider : MethodName := ⟨RX9, "hasRider", "(I)Z"⟩
abbrev cX9_ride : ByteArray := prog_11_method_44_code
def yX9_ride : MethodName := ⟨RX9, "ride", "(II)I"⟩
abbrev cX9_leave : ByteArray := prog_11_method_45_code
def yX9_leave : MethodName := ⟨RX9, "leave", "(I)I"⟩
abbrev cX9_undo : ByteArray := prog_11_method_46_code
def yX9_undo : MethodName := ⟨RX9, "undo", "()I"⟩
abbrev cX9_rankTried : ByteArray := prog_11_method_47_code
def yX9_rankTried : MethodName := ⟨RX9, "rankTried", "(I)I"⟩
abbrev cX9_late : ByteArray := prog_11_method_48_code
def yX9_late : MethodName := ⟨RX9, "late", "(I)I"⟩
abbrev cX9_back : ByteArray := prog_11_method_49_code
def yX9_back : MethodName := ⟨RX9, "back", "(II)I"⟩
abbrev cX9_twos : ByteArray := prog_11_method_50_code
def yX9_twos : MethodName := ⟨RX9, "twos", "()I"⟩
abbrev cX9_firstOne : ByteArray := prog_11_method_51_code
def yX9_firstOne : MethodName := ⟨RX9, "firstOne", "(I)I"⟩
abbrev cX9_bridge : ByteArray := prog_11_method_52_code
def yX9_bridge : MethodName := ⟨RX9, "bridge", "(I)I"⟩
abbrev cX9_off : ByteArray := prog_11_method_53_code
def yX9_off : MethodName := ⟨RX9, "off", "(II)I"⟩
abbrev cX9_calm : ByteArray := prog_11_method_54_code
def yX9_calm : MethodName := ⟨RX9, "calm", "(I)I"⟩
abbrev cX9_findOrder : ByteArray := prog_11_method_55_code
def yX9_findOrder : MethodName := ⟨RX9, "findOrder", "()V"⟩
abbrev cX9_order : ByteArray := prog_11_method_56_code
def yX9_order : MethodName := ⟨RX9, "order", "(I)I"⟩
abbrev cX9_harvest : ByteArray := prog_11_method_57_code
def yX9_harvest : MethodName := ⟨RX9, "harvest", "(I)I"⟩
abbrev cX9_odds : ByteArray := prog_11_method_58_code
def yX9_odds : MethodName := ⟨RX9, "odds", "(IIII)I"⟩
abbrev cX9_seen : ByteArray := prog_11_method_59_code
def yX9_seen : MethodName := ⟨RX9, "seen", "(II)I"⟩
abbrev cX9_forget : ByteArray := prog_11_method_60_code
def yX9_forget : MethodName := ⟨RX9, "forget", "()I"⟩
abbrev cX9_fits : ByteArray := prog_11_method_61_code
def yX9_fits : MethodName := ⟨RX9, "fits", "(II)Z"⟩
abbrev cX9_rides : ByteArray := prog_11_method_62_code
def yX9_rides : MethodName := ⟨RX9, "rides", "(I)I"⟩
abbrev cX9_river : ByteArray := prog_11_method_63_code
def yX9_river : MethodName := ⟨RX9, "river", "(II)I"⟩
abbrev cX9_keep : ByteArray := prog_11_method_64_code
def yX9_keep : MethodName := ⟨RX9, "keep", "()I"⟩
abbrev cX9_restore : ByteArray := prog_11_method_65_code
def yX9_restore : MethodName := ⟨RX9, "restore", "()I"⟩
abbrev cX9_count : ByteArray := prog_11_method_66_code
def yX9_count : MethodName := ⟨RX9, "count", "(I)I"⟩
def RJ6 : String := "java/lang/Integer"
def TJ6 : u_T := fun k => match k with
  | _ => ("", "", "", false)
def tyJ6 : Nat → FieldType := fun k => match k with
  | _ => .int
abbrev wsJ60 : List Cond := u_ws RJ6 TJ6 0
theorem nmJ6 : ∀ a, a < 0 → ∀ b, b < 0 → a ≠ b → (TJ6 a).2.1 ≠ (TJ6 b).2.1 := by decide +kernel
theorem tyJ6_ok : ∀ k, k < 0 → parseFieldDescriptor (TJ6 k).2.2.1 = some (tyJ6 k) := by decide +kernel
abbrev cJ6_bitCount_0f7a4 : ByteArray := prog_12_method_49_code
def yJ6_bitCount_0f7a4 : MethodName := ⟨RJ6, "bitCount", "(I)I"⟩
def RJ9 : String := "java/lang/Math"
def TJ9 : u_T := fun k => match k with
  | _ => ("", "", "", false)
def tyJ9 : Nat → FieldType := fun k => match k with
  | _ => .int
abbrev wsJ90 : List Cond := u_ws RJ9 TJ9 0
theorem nmJ9 : ∀ a, a < 0 → ∀ b, b < 0 → a ≠ b → (TJ9 a).2.1 ≠ (TJ9 b).2.1 := by decide +kernel
theorem tyJ9_ok : ∀ k, k < 0 → parseFieldDescriptor (TJ9 k).2.2.1 = some (tyJ9 k) := by decide +kernel
abbrev cJ9_abs_0f7a4 : ByteArray := prog_13_method_59_code
def yJ9_abs_0f7a4 : MethodName := ⟨RJ9, "abs", "(I)I"⟩
abbrev cJ9_max_7cf53 : ByteArray := prog_13_method_65_code
def yJ9_max_7cf53 : MethodName := ⟨RJ9, "max", "(II)I"⟩
abbrev cJ9_min_7cf53 : ByteArray := prog_13_method_69_code
def yJ9_min_7cf53 : MethodName := ⟨RJ9, "min", "(II)I"⟩
def RJ0 : String := "java/lang/String"
def TJ0 : u_T := fun k => match k with
  | _ => ("", "", "", false)
def tyJ0 : Nat → FieldType := fun k => match k with
  | _ => .int
abbrev wsJ00 : List Cond := u_ws RJ0 TJ0 0
theorem nmJ0 : ∀ a, a < 0 → ∀ b, b < 0 → a ≠ b → (TJ0 a).2.1 ≠ (TJ0 b).2.1 := by decide +kernel
theorem tyJ0_ok : ∀ k, k < 0 → parseFieldDescriptor (TJ0 k).2.2.1 = some (tyJ0 k) := by decide +kernel
abbrev cJ0_toCharArray_70df3 : ByteArray := prog_14_method_129_code
def yJ0_toCharArray_70df3 : MethodName := ⟨RJ0, "toCharArray", "()[C"⟩
abbrev cJ0_isLatin1_aae02 : ByteArray := prog_14_method_154_code
def yJ0_isLatin1_aae02 : MethodName := ⟨RJ0, "isLatin1", "()Z"⟩
abbrev cJ0_checkBoundsOffCount_cabcc : ByteArray := prog_14_method_157_code
def yJ0_checkBoundsOffCount_cabcc : MethodName := ⟨RJ0, "checkBoundsOffCount", "(III)I"⟩
def RJ1 : String := "java/lang/StringLatin1"
def TJ1 : u_T := fun k => match k with
  | _ => ("", "", "", false)
def tyJ1 : Nat → FieldType := fun k => match k with
  | _ => .int
abbrev wsJ10 : List Cond := u_ws RJ1 TJ1 0
theorem nmJ1 : ∀ a, a < 0 → ∀ b, b < 0 → a ≠ b → (TJ1 a).2.1 ≠ (TJ1 b).2.1 := by decide +kernel
theorem tyJ1_ok : ∀ k, k < 0 → parseFieldDescriptor (TJ1 k).2.2.1 = some (tyJ1 k) := by decide +kernel
abbrev cJ1_toChars_9d188 : ByteArray := prog_15_method_9_code
def yJ1_toChars_9d188 : MethodName := ⟨RJ1, "toChars", "([B)[C"⟩
abbrev cJ1_inflate_03870 : ByteArray := prog_15_method_49_code
def yJ1_inflate_03870 : MethodName := ⟨RJ1, "inflate", "([BI[CII)V"⟩
def RJ2 : String := "java/lang/StringUTF16"
def TJ2 : u_T := fun k => match k with
  | _ => ("", "", "", false)
def tyJ2 : Nat → FieldType := fun k => match k with
  | _ => .int
abbrev wsJ20 : List Cond := u_ws RJ2 TJ2 0
theorem nmJ2 : ∀ a, a < 0 → ∀ b, b < 0 → a ≠ b → (TJ2 a).2.1 ≠ (TJ2 b).2.1 := by decide +kernel
theorem tyJ2_ok : ∀ k, k < 0 → parseFieldDescriptor (TJ2 k).2.2.1 = some (tyJ2 k) := by decide +kernel
abbrev cJ2_getChar_3b067 : ByteArray := prog_16_method_5_code
def yJ2_getChar_3b067 : MethodName := ⟨RJ2, "getChar", "([BI)C"⟩
abbrev cJ2_length_9d52b : ByteArray := prog_16_method_6_code
def yJ2_length_9d52b : MethodName := ⟨RJ2, "length", "([B)I"⟩
abbrev cJ2_toChars_9d188 : ByteArray := prog_16_method_13_code
def yJ2_toChars_9d188 : MethodName := ⟨RJ2, "toChars", "([B)[C"⟩
abbrev cJ2_getChars_a1a8b : ByteArray := prog_16_method_26_code
def yJ2_getChars_a1a8b : MethodName := ⟨RJ2, "getChars", "([BII[CI)V"⟩
abbrev cJ2_checkBoundsOffCount_d044e : ByteArray := prog_16_method_94_code
def yJ2_checkBoundsOffCount_d044e : MethodName := ⟨RJ2, "checkBoundsOffCount", "(II[B)V"⟩
def RJ10 : String := "java/lang/System"
def TJ10 : u_T := fun k => match k with
  | _ => ("", "", "", false)
def tyJ10 : Nat → FieldType := fun k => match k with
  | _ => .int
abbrev wsJ100 : List Cond := u_ws RJ10 TJ10 0
theorem nmJ10 : ∀ a, a < 0 → ∀ b, b < 0 → a ≠ b → (TJ10 a).2.1 ≠ (TJ10 b).2.1 := by decide +kernel
theorem tyJ10_ok : ∀ k, k < 0 → parseFieldDescriptor (TJ10 k).2.2.1 = some (tyJ10 k) := by decide +kernel
def RJ3 : String := "jdk/internal/util/Preconditions"
def TJ3 : u_T := fun k => match k with
  | _ => ("", "", "", false)
def tyJ3 : Nat → FieldType := fun k => match k with
  | _ => .int
abbrev wsJ30 : List Cond := u_ws RJ3 TJ3 0
theorem nmJ3 : ∀ a, a < 0 → ∀ b, b < 0 → a ≠ b → (TJ3 a).2.1 ≠ (TJ3 b).2.1 := by decide +kernel
theorem tyJ3_ok : ∀ k, k < 0 → parseFieldDescriptor (TJ3 k).2.2.1 = some (tyJ3 k) := by decide +kernel
abbrev cJ3_checkFromIndexSize_8c36e : ByteArray := prog_18_method_13_code
def yJ3_checkFromIndexSize_8c36e : MethodName := ⟨RJ3, "checkFromIndexSize", "(IIILjava/util/function/BiFunction;)I"⟩
def RL : String := "CrossedFirstLaw"
abbrev cL_law : ByteArray := code
def yL_law : MethodName := ⟨RL, "law", "([I)Z"⟩
abbrev vwCl : List vw_C := [(RX0, TX0, 2), (RX1, TX1, 4), (RX2, TX2, 1), (RX3, TX3, 3), (RX4, TX4, 15), (RX5, TX5, 2), (RX6, TX6, 18), (RX7, TX7, 3), (RX8, TX8, 11), (RX9, TX9, 34)]
end
section
theorem dJ0_toCharArray_70df3_0 : decode cJ0_toCharArray_70df3 0 = .ok (.aload_n 0, 1) := by decide +kernel
theorem dJ0_toCharArray_70df3_1 : decode cJ0_toCharArray_70df3 1 = .ok (.invokevirtual 492, 3) := by decide +kernel
theorem dJ0_toCharArray_70df3_4 : decode cJ0_toCharArray_70df3 4 = .ok (.ifCond .eq 13, 3) := by decide +kernel
theorem dJ0_toCharArray_70df3_7 : decode cJ0_toCharArray_70df3 7 = .ok (.aload_n 0, 1) := by decide +kernel
theorem dJ0_toCharArray_70df3_8 : decode cJ0_toCharArray_70df3 8 = .ok (.getfield 9, 3) := by decide +kernel
theorem dJ0_toCharArray_70df3_11 : decode cJ0_toCharArray_70df3 11 = .ok (.invokestatic 299, 3) := by decide +kernel
theorem dJ0_toCharArray_70df3_14 : decode cJ0_toCharArray_70df3 14 = .ok (.goto 10, 3) := by decide +kernel
theorem dJ0_toCharArray_70df3_17 : decode cJ0_toCharArray_70df3 17 = .ok (.aload_n 0, 1) := by decide +kernel
theorem dJ0_toCharArray_70df3_18 : decode cJ0_toCharArray_70df3 18 = .ok (.getfield 9, 3) := by decide +kernel
theorem dJ0_toCharArray_70df3_21 : decode cJ0_toCharArray_70df3 21 = .ok (.invokestatic 303, 3) := by decide +kernel
theorem dJ0_toCharArray_70df3_24 : decode cJ0_toCharArray_70df3 24 = .ok (.areturn, 1) := by decide +kernel
theorem dJ0_isLatin1_aae02_0 : decode cJ0_isLatin1_aae02 0 = .ok (.getstatic 38, 3) := by decide +kernel
theorem dJ0_isLatin1_aae02_3 : decode cJ0_isLatin1_aae02 3 = .ok (.ifCond .eq 14, 3) := by decide +kernel
theorem dJ0_isLatin1_aae02_6 : decode cJ0_isLatin1_aae02 6 = .ok (.aload_n 0, 1) := by decide +kernel
theorem dJ0_isLatin1_aae02_7 : decode cJ0_isLatin1_aae02 7 = .ok (.getfield 15, 3) := by decide +kernel
theorem dJ0_isLatin1_aae02_10 : decode cJ0_isLatin1_aae02 10 = .ok (.ifCond .ne 7, 3) := by decide +kernel
theorem dJ0_isLatin1_aae02_13 : decode cJ0_isLatin1_aae02 13 = .ok (.iconst 1, 1) := by decide +kernel
theorem dJ0_isLatin1_aae02_14 : decode cJ0_isLatin1_aae02 14 = .ok (.goto 4, 3) := by decide +kernel
theorem dJ0_isLatin1_aae02_17 : decode cJ0_isLatin1_aae02 17 = .ok (.iconst 0, 1) := by decide +kernel
theorem dJ0_isLatin1_aae02_18 : decode cJ0_isLatin1_aae02 18 = .ok (.ireturn, 1) := by decide +kernel
theorem dJ0_checkBoundsOffCount_cabcc_0 : decode cJ0_checkBoundsOffCount_cabcc 0 = .ok (.iload_n 0, 1) := by decide +kernel
theorem dJ0_checkBoundsOffCount_cabcc_1 : decode cJ0_checkBoundsOffCount_cabcc 1 = .ok (.iload_n 1, 1) := by decide +kernel
theorem dJ0_checkBoundsOffCount_cabcc_2 : decode cJ0_checkBoundsOffCount_cabcc 2 = .ok (.iload_n 2, 1) := by decide +kernel
theorem dJ0_checkBoundsOffCount_cabcc_3 : decode cJ0_checkBoundsOffCount_cabcc 3 = .ok (.getstatic 1053, 3) := by decide +kernel
theorem dJ0_checkBoundsOffCount_cabcc_6 : decode cJ0_checkBoundsOffCount_cabcc 6 = .ok (.invokestatic 1065, 3) := by decide +kernel
theorem dJ0_checkBoundsOffCount_cabcc_9 : decode cJ0_checkBoundsOffCount_cabcc 9 = .ok (.ireturn, 1) := by decide +kernel
theorem dJ1_toChars_9d188_0 : decode cJ1_toChars_9d188 0 = .ok (.aload_n 0, 1) := by decide +kernel
theorem dJ1_toChars_9d188_1 : decode cJ1_toChars_9d188 1 = .ok (.arraylength, 1) := by decide +kernel
theorem dJ1_toChars_9d188_2 : decode cJ1_toChars_9d188 2 = .ok (.newarray .char, 2) := by decide +kernel
theorem dJ1_toChars_9d188_4 : decode cJ1_toChars_9d188 4 = .ok (.astore_n 1, 1) := by decide +kernel
theorem dJ1_toChars_9d188_5 : decode cJ1_toChars_9d188 5 = .ok (.aload_n 0, 1) := by decide +kernel
theorem dJ1_toChars_9d188_6 : decode cJ1_toChars_9d188 6 = .ok (.iconst 0, 1) := by decide +kernel
theorem dJ1_toChars_9d188_7 : decode cJ1_toChars_9d188 7 = .ok (.aload_n 1, 1) := by decide +kernel
theorem dJ1_toChars_9d188_8 : decode cJ1_toChars_9d188 8 = .ok (.iconst 0, 1) := by decide +kernel
theorem dJ1_toChars_9d188_9 : decode cJ1_toChars_9d188 9 = .ok (.aload_n 0, 1) := by decide +kernel
theorem dJ1_toChars_9d188_10 : decode cJ1_toChars_9d188 10 = .ok (.arraylength, 1) := by decide +kernel
theorem dJ1_toChars_9d188_11 : decode cJ1_toChars_9d188 11 = .ok (.invokestatic 13, 3) := by decide +kernel
theorem dJ1_toChars_9d188_14 : decode cJ1_toChars_9d188 14 = .ok (.aload_n 1, 1) := by decide +kernel
theorem dJ1_toChars_9d188_15 : decode cJ1_toChars_9d188 15 = .ok (.areturn, 1) := by decide +kernel
theorem dJ1_inflate_03870_0 : decode cJ1_inflate_03870 0 = .ok (.iconst 0, 1) := by decide +kernel
theorem dJ1_inflate_03870_1 : decode cJ1_inflate_03870 1 = .ok (.istore 5, 2) := by decide +kernel
theorem dJ1_inflate_03870_3 : decode cJ1_inflate_03870 3 = .ok (.iload 5, 2) := by decide +kernel
theorem dJ1_inflate_03870_5 : decode cJ1_inflate_03870 5 = .ok (.iload 4, 2) := by decide +kernel
theorem dJ1_inflate_03870_7 : decode cJ1_inflate_03870 7 = .ok (.if_icmp .ge 26, 3) := by decide +kernel
theorem dJ1_inflate_03870_10 : decode cJ1_inflate_03870 10 = .ok (.aload_n 2, 1) := by decide +kernel
theorem dJ1_inflate_03870_11 : decode cJ1_inflate_03870 11 = .ok (.iload_n 3, 1) := by decide +kernel
theorem dJ1_inflate_03870_12 : decode cJ1_inflate_03870 12 = .ok (.iinc 3 1, 3) := by decide +kernel
theorem dJ1_inflate_03870_15 : decode cJ1_inflate_03870 15 = .ok (.aload_n 0, 1) := by decide +kernel
theorem dJ1_inflate_03870_16 : decode cJ1_inflate_03870 16 = .ok (.iload_n 1, 1) := by decide +kernel
theorem dJ1_inflate_03870_17 : decode cJ1_inflate_03870 17 = .ok (.iinc 1 1, 3) := by decide +kernel
theorem dJ1_inflate_03870_20 : decode cJ1_inflate_03870 20 = .ok (.baload, 1) := by decide +kernel
theorem dJ1_inflate_03870_21 : decode cJ1_inflate_03870 21 = .ok (.sipush 255, 3) := by decide +kernel
theorem dJ1_inflate_03870_24 : decode cJ1_inflate_03870 24 = .ok (.iand, 1) := by decide +kernel
theorem dJ1_inflate_03870_25 : decode cJ1_inflate_03870 25 = .ok (.i2c, 1) := by decide +kernel
theorem dJ1_inflate_03870_26 : decode cJ1_inflate_03870 26 = .ok (.castore, 1) := by decide +kernel
theorem dJ1_inflate_03870_27 : decode cJ1_inflate_03870 27 = .ok (.iinc 5 1, 3) := by decide +kernel
theorem dJ1_inflate_03870_30 : decode cJ1_inflate_03870 30 = .ok (.goto (-27), 3) := by decide +kernel
theorem dJ1_inflate_03870_33 : decode cJ1_inflate_03870 33 = .ok (.return_, 1) := by decide +kernel
theorem dJ2_getChar_3b067_0 : decode cJ2_getChar_3b067 0 = .ok (.getstatic 44, 3) := by decide +kernel
theorem dJ2_getChar_3b067_3 : decode cJ2_getChar_3b067 3 = .ok (.ifCond .ne 25, 3) := by decide +kernel
theorem dJ2_getChar_3b067_6 : decode cJ2_getChar_3b067 6 = .ok (.iload_n 1, 1) := by decide +kernel
theorem dJ2_getChar_3b067_7 : decode cJ2_getChar_3b067 7 = .ok (.ifCond .lt 11, 3) := by decide +kernel
theorem dJ2_getChar_3b067_10 : decode cJ2_getChar_3b067 10 = .ok (.iload_n 1, 1) := by decide +kernel
theorem dJ2_getChar_3b067_11 : decode cJ2_getChar_3b067 11 = .ok (.aload_n 0, 1) := by decide +kernel
theorem dJ2_getChar_3b067_12 : decode cJ2_getChar_3b067 12 = .ok (.invokestatic 48, 3) := by decide +kernel
theorem dJ2_getChar_3b067_15 : decode cJ2_getChar_3b067 15 = .ok (.if_icmp .lt 13, 3) := by decide +kernel
theorem dJ2_getChar_3b067_18 : decode cJ2_getChar_3b067 18 = .ok (.new 52, 3) := by decide +kernel
theorem dJ2_getChar_3b067_21 : decode cJ2_getChar_3b067 21 = .ok (.dup, 1) := by decide +kernel
theorem dJ2_getChar_3b067_22 : decode cJ2_getChar_3b067 22 = .ok (.ldc 54, 2) := by decide +kernel
theorem dJ2_getChar_3b067_24 : decode cJ2_getChar_3b067 24 = .ok (.invokespecial 56, 3) := by decide +kernel
theorem dJ2_getChar_3b067_27 : decode cJ2_getChar_3b067 27 = .ok (.athrow, 1) := by decide +kernel
theorem dJ2_getChar_3b067_28 : decode cJ2_getChar_3b067 28 = .ok (.iload_n 1, 1) := by decide +kernel
theorem dJ2_getChar_3b067_29 : decode cJ2_getChar_3b067 29 = .ok (.iconst 1, 1) := by decide +kernel
theorem dJ2_getChar_3b067_30 : decode cJ2_getChar_3b067 30 = .ok (.ishl, 1) := by decide +kernel
theorem dJ2_getChar_3b067_31 : decode cJ2_getChar_3b067 31 = .ok (.istore_n 1, 1) := by decide +kernel
theorem dJ2_getChar_3b067_32 : decode cJ2_getChar_3b067 32 = .ok (.aload_n 0, 1) := by decide +kernel
theorem dJ2_getChar_3b067_33 : decode cJ2_getChar_3b067 33 = .ok (.iload_n 1, 1) := by decide +kernel
theorem dJ2_getChar_3b067_34 : decode cJ2_getChar_3b067 34 = .ok (.iinc 1 1, 3) := by decide +kernel
theorem dJ2_getChar_3b067_37 : decode cJ2_getChar_3b067 37 = .ok (.baload, 1) := by decide +kernel
theorem dJ2_getChar_3b067_38 : decode cJ2_getChar_3b067 38 = .ok (.sipush 255, 3) := by decide +kernel
theorem dJ2_getChar_3b067_41 : decode cJ2_getChar_3b067 41 = .ok (.iand, 1) := by decide +kernel
theorem dJ2_getChar_3b067_42 : decode cJ2_getChar_3b067 42 = .ok (.getstatic 59, 3) := by decide +kernel
theorem dJ2_getChar_3b067_45 : decode cJ2_getChar_3b067 45 = .ok (.ishl, 1) := by decide +kernel
theorem dJ2_getChar_3b067_46 : decode cJ2_getChar_3b067 46 = .ok (.aload_n 0, 1) := by decide +kernel
theorem dJ2_getChar_3b067_47 : decode cJ2_getChar_3b067 47 = .ok (.iload_n 1, 1) := by decide +kernel
theorem dJ2_getChar_3b067_48 : decode cJ2_getChar_3b067 48 = .ok (.baload, 1) := by decide +kernel
theorem dJ2_getChar_3b067_49 : decode cJ2_getChar_3b067 49 = .ok (.sipush 255, 3) := by decide +kernel
theorem dJ2_getChar_3b067_52 : decode cJ2_getChar_3b067 52 = .ok (.iand, 1) := by decide +kernel
theorem dJ2_getChar_3b067_53 : decode cJ2_getChar_3b067 53 = .ok (.getstatic 63, 3) := by decide +kernel
theorem dJ2_getChar_3b067_56 : decode cJ2_getChar_3b067 56 = .ok (.ishl, 1) := by decide +kernel
theorem dJ2_getChar_3b067_57 : decode cJ2_getChar_3b067 57 = .ok (.ior, 1) := by decide +kernel
theorem dJ2_getChar_3b067_58 : decode cJ2_getChar_3b067 58 = .ok (.i2c, 1) := by decide +kernel
theorem dJ2_getChar_3b067_59 : decode cJ2_getChar_3b067 59 = .ok (.ireturn, 1) := by decide +kernel
theorem dJ2_length_9d52b_0 : decode cJ2_length_9d52b 0 = .ok (.aload_n 0, 1) := by decide +kernel
theorem dJ2_length_9d52b_1 : decode cJ2_length_9d52b 1 = .ok (.arraylength, 1) := by decide +kernel
theorem dJ2_length_9d52b_2 : decode cJ2_length_9d52b 2 = .ok (.iconst 1, 1) := by decide +kernel
theorem dJ2_length_9d52b_3 : decode cJ2_length_9d52b 3 = .ok (.ishr, 1) := by decide +kernel
theorem dJ2_length_9d52b_4 : decode cJ2_length_9d52b 4 = .ok (.ireturn, 1) := by decide +kernel
theorem dJ2_toChars_9d188_0 : decode cJ2_toChars_9d188 0 = .ok (.aload_n 0, 1) := by decide +kernel
theorem dJ2_toChars_9d188_1 : decode cJ2_toChars_9d188 1 = .ok (.arraylength, 1) := by decide +kernel
theorem dJ2_toChars_9d188_2 : decode cJ2_toChars_9d188 2 = .ok (.iconst 1, 1) := by decide +kernel
theorem dJ2_toChars_9d188_3 : decode cJ2_toChars_9d188 3 = .ok (.ishr, 1) := by decide +kernel
theorem dJ2_toChars_9d188_4 : decode cJ2_toChars_9d188 4 = .ok (.newarray .char, 2) := by decide +kernel
theorem dJ2_toChars_9d188_6 : decode cJ2_toChars_9d188 6 = .ok (.astore_n 1, 1) := by decide +kernel
theorem dJ2_toChars_9d188_7 : decode cJ2_toChars_9d188 7 = .ok (.aload_n 0, 1) := by decide +kernel
theorem dJ2_toChars_9d188_8 : decode cJ2_toChars_9d188 8 = .ok (.iconst 0, 1) := by decide +kernel
theorem dJ2_toChars_9d188_9 : decode cJ2_toChars_9d188 9 = .ok (.aload_n 1, 1) := by decide +kernel
theorem dJ2_toChars_9d188_10 : decode cJ2_toChars_9d188 10 = .ok (.arraylength, 1) := by decide +kernel
theorem dJ2_toChars_9d188_11 : decode cJ2_toChars_9d188 11 = .ok (.aload_n 1, 1) := by decide +kernel
theorem dJ2_toChars_9d188_12 : decode cJ2_toChars_9d188 12 = .ok (.iconst 0, 1) := by decide +kernel
theorem dJ2_toChars_9d188_13 : decode cJ2_toChars_9d188 13 = .ok (.invokestatic 103, 3) := by decide +kernel
theorem dJ2_toChars_9d188_16 : decode cJ2_toChars_9d188 16 = .ok (.aload_n 1, 1) := by decide +kernel
theorem dJ2_toChars_9d188_17 : decode cJ2_toChars_9d188 17 = .ok (.areturn, 1) := by decide +kernel
theorem dJ2_getChars_a1a8b_0 : decode cJ2_getChars_a1a8b 0 = .ok (.iload_n 1, 1) := by decide +kernel
theorem dJ2_getChars_a1a8b_1 : decode cJ2_getChars_a1a8b 1 = .ok (.iload_n 2, 1) := by decide +kernel
theorem dJ2_getChars_a1a8b_2 : decode cJ2_getChars_a1a8b 2 = .ok (.if_icmp .ge 11, 3) := by decide +kernel
theorem dJ2_getChars_a1a8b_5 : decode cJ2_getChars_a1a8b 5 = .ok (.iload_n 1, 1) := by decide +kernel
theorem dJ2_getChars_a1a8b_6 : decode cJ2_getChars_a1a8b 6 = .ok (.iload_n 2, 1) := by decide +kernel
theorem dJ2_getChars_a1a8b_7 : decode cJ2_getChars_a1a8b 7 = .ok (.iload_n 1, 1) := by decide +kernel
theorem dJ2_getChars_a1a8b_8 : decode cJ2_getChars_a1a8b 8 = .ok (.isub, 1) := by decide +kernel
theorem dJ2_getChars_a1a8b_9 : decode cJ2_getChars_a1a8b 9 = .ok (.aload_n 0, 1) := by decide +kernel
theorem dJ2_getChars_a1a8b_10 : decode cJ2_getChars_a1a8b 10 = .ok (.invokestatic 173, 3) := by decide +kernel
theorem dJ2_getChars_a1a8b_13 : decode cJ2_getChars_a1a8b 13 = .ok (.iload_n 1, 1) := by decide +kernel
theorem dJ2_getChars_a1a8b_14 : decode cJ2_getChars_a1a8b 14 = .ok (.istore 5, 2) := by decide +kernel
theorem dJ2_getChars_a1a8b_16 : decode cJ2_getChars_a1a8b 16 = .ok (.iload 5, 2) := by decide +kernel
theorem dJ2_getChars_a1a8b_18 : decode cJ2_getChars_a1a8b 18 = .ok (.iload_n 2, 1) := by decide +kernel
theorem dJ2_getChars_a1a8b_19 : decode cJ2_getChars_a1a8b 19 = .ok (.if_icmp .ge 22, 3) := by decide +kernel
theorem dJ2_getChars_a1a8b_22 : decode cJ2_getChars_a1a8b 22 = .ok (.aload_n 3, 1) := by decide +kernel
theorem dJ2_getChars_a1a8b_23 : decode cJ2_getChars_a1a8b 23 = .ok (.iload 4, 2) := by decide +kernel
theorem dJ2_getChars_a1a8b_25 : decode cJ2_getChars_a1a8b 25 = .ok (.iinc 4 1, 3) := by decide +kernel
theorem dJ2_getChars_a1a8b_28 : decode cJ2_getChars_a1a8b 28 = .ok (.aload_n 0, 1) := by decide +kernel
theorem dJ2_getChars_a1a8b_29 : decode cJ2_getChars_a1a8b 29 = .ok (.iload 5, 2) := by decide +kernel
theorem dJ2_getChars_a1a8b_31 : decode cJ2_getChars_a1a8b 31 = .ok (.invokestatic 71, 3) := by decide +kernel
theorem dJ2_getChars_a1a8b_34 : decode cJ2_getChars_a1a8b 34 = .ok (.castore, 1) := by decide +kernel
theorem dJ2_getChars_a1a8b_35 : decode cJ2_getChars_a1a8b 35 = .ok (.iinc 5 1, 3) := by decide +kernel
theorem dJ2_getChars_a1a8b_38 : decode cJ2_getChars_a1a8b 38 = .ok (.goto (-22), 3) := by decide +kernel
theorem dJ2_getChars_a1a8b_41 : decode cJ2_getChars_a1a8b 41 = .ok (.return_, 1) := by decide +kernel
theorem dJ2_checkBoundsOffCount_d044e_0 : decode cJ2_checkBoundsOffCount_d044e 0 = .ok (.iload_n 0, 1) := by decide +kernel
theorem dJ2_checkBoundsOffCount_d044e_1 : decode cJ2_checkBoundsOffCount_d044e 1 = .ok (.iload_n 1, 1) := by decide +kernel
theorem dJ2_checkBoundsOffCount_d044e_2 : decode cJ2_checkBoundsOffCount_d044e 2 = .ok (.aload_n 2, 1) := by decide +kernel
theorem dJ2_checkBoundsOffCount_d044e_3 : decode cJ2_checkBoundsOffCount_d044e 3 = .ok (.invokestatic 48, 3) := by decide +kernel
theorem dJ2_checkBoundsOffCount_d044e_6 : decode cJ2_checkBoundsOffCount_d044e 6 = .ok (.invokestatic 419, 3) := by decide +kernel
theorem dJ2_checkBoundsOffCount_d044e_9 : decode cJ2_checkBoundsOffCount_d044e 9 = .ok (.pop, 1) := by decide +kernel
theorem dJ2_checkBoundsOffCount_d044e_10 : decode cJ2_checkBoundsOffCount_d044e 10 = .ok (.return_, 1) := by decide +kernel
theorem dJ3_checkFromIndexSize_8c36e_0 : decode cJ3_checkFromIndexSize_8c36e 0 = .ok (.iload_n 2, 1) := by decide +kernel
theorem dJ3_checkFromIndexSize_8c36e_1 : decode cJ3_checkFromIndexSize_8c36e 1 = .ok (.iload_n 0, 1) := by decide +kernel
theorem dJ3_checkFromIndexSize_8c36e_2 : decode cJ3_checkFromIndexSize_8c36e 2 = .ok (.ior, 1) := by decide +kernel
theorem dJ3_checkFromIndexSize_8c36e_3 : decode cJ3_checkFromIndexSize_8c36e 3 = .ok (.iload_n 1, 1) := by decide +kernel
theorem dJ3_checkFromIndexSize_8c36e_4 : decode cJ3_checkFromIndexSize_8c36e 4 = .ok (.ior, 1) := by decide +kernel
theorem dJ3_checkFromIndexSize_8c36e_5 : decode cJ3_checkFromIndexSize_8c36e 5 = .ok (.ifCond .lt 10, 3) := by decide +kernel
theorem dJ3_checkFromIndexSize_8c36e_8 : decode cJ3_checkFromIndexSize_8c36e 8 = .ok (.iload_n 1, 1) := by decide +kernel
theorem dJ3_checkFromIndexSize_8c36e_9 : decode cJ3_checkFromIndexSize_8c36e 9 = .ok (.iload_n 2, 1) := by decide +kernel
theorem dJ3_checkFromIndexSize_8c36e_10 : decode cJ3_checkFromIndexSize_8c36e 10 = .ok (.iload_n 0, 1) := by decide +kernel
theorem dJ3_checkFromIndexSize_8c36e_11 : decode cJ3_checkFromIndexSize_8c36e 11 = .ok (.isub, 1) := by decide +kernel
theorem dJ3_checkFromIndexSize_8c36e_12 : decode cJ3_checkFromIndexSize_8c36e 12 = .ok (.if_icmp .le 11, 3) := by decide +kernel
theorem dJ3_checkFromIndexSize_8c36e_15 : decode cJ3_checkFromIndexSize_8c36e 15 = .ok (.aload_n 3, 1) := by decide +kernel
theorem dJ3_checkFromIndexSize_8c36e_16 : decode cJ3_checkFromIndexSize_8c36e 16 = .ok (.iload_n 0, 1) := by decide +kernel
theorem dJ3_checkFromIndexSize_8c36e_17 : decode cJ3_checkFromIndexSize_8c36e 17 = .ok (.iload_n 1, 1) := by decide +kernel
theorem dJ3_checkFromIndexSize_8c36e_18 : decode cJ3_checkFromIndexSize_8c36e 18 = .ok (.iload_n 2, 1) := by decide +kernel
theorem dJ3_checkFromIndexSize_8c36e_19 : decode cJ3_checkFromIndexSize_8c36e 19 = .ok (.invokestatic 103, 3) := by decide +kernel
theorem dJ3_checkFromIndexSize_8c36e_22 : decode cJ3_checkFromIndexSize_8c36e 22 = .ok (.athrow, 1) := by decide +kernel
theorem dJ3_checkFromIndexSize_8c36e_23 : decode cJ3_checkFromIndexSize_8c36e 23 = .ok (.iload_n 0, 1) := by decide +kernel
theorem dJ3_checkFromIndexSize_8c36e_24 : decode cJ3_checkFromIndexSize_8c36e 24 = .ok (.ireturn, 1) := by decide +kernel
theorem dJ6_bitCount_0f7a4_0 : decode cJ6_bitCount_0f7a4 0 = .ok (.iload_n 0, 1) := by decide +kernel
theorem dJ6_bitCount_0f7a4_1 : decode cJ6_bitCount_0f7a4 1 = .ok (.iload_n 0, 1) := by decide +kernel
theorem dJ6_bitCount_0f7a4_2 : decode cJ6_bitCount_0f7a4 2 = .ok (.iconst 1, 1) := by decide +kernel
theorem dJ6_bitCount_0f7a4_3 : decode cJ6_bitCount_0f7a4 3 = .ok (.iushr, 1) := by decide +kernel
theorem dJ6_bitCount_0f7a4_4 : decode cJ6_bitCount_0f7a4 4 = .ok (.ldc_w 265, 3) := by decide +kernel
theorem dJ6_bitCount_0f7a4_7 : decode cJ6_bitCount_0f7a4 7 = .ok (.iand, 1) := by decide +kernel
theorem dJ6_bitCount_0f7a4_8 : decode cJ6_bitCount_0f7a4 8 = .ok (.isub, 1) := by decide +kernel
theorem dJ6_bitCount_0f7a4_9 : decode cJ6_bitCount_0f7a4 9 = .ok (.istore_n 0, 1) := by decide +kernel
theorem dJ6_bitCount_0f7a4_10 : decode cJ6_bitCount_0f7a4 10 = .ok (.iload_n 0, 1) := by decide +kernel
theorem dJ6_bitCount_0f7a4_11 : decode cJ6_bitCount_0f7a4 11 = .ok (.ldc_w 266, 3) := by decide +kernel
theorem dJ6_bitCount_0f7a4_14 : decode cJ6_bitCount_0f7a4 14 = .ok (.iand, 1) := by decide +kernel
theorem dJ6_bitCount_0f7a4_15 : decode cJ6_bitCount_0f7a4 15 = .ok (.iload_n 0, 1) := by decide +kernel
theorem dJ6_bitCount_0f7a4_16 : decode cJ6_bitCount_0f7a4 16 = .ok (.iconst 2, 1) := by decide +kernel
theorem dJ6_bitCount_0f7a4_17 : decode cJ6_bitCount_0f7a4 17 = .ok (.iushr, 1) := by decide +kernel
theorem dJ6_bitCount_0f7a4_18 : decode cJ6_bitCount_0f7a4 18 = .ok (.ldc_w 266, 3) := by decide +kernel
theorem dJ6_bitCount_0f7a4_21 : decode cJ6_bitCount_0f7a4 21 = .ok (.iand, 1) := by decide +kernel
theorem dJ6_bitCount_0f7a4_22 : decode cJ6_bitCount_0f7a4 22 = .ok (.iadd, 1) := by decide +kernel
theorem dJ6_bitCount_0f7a4_23 : decode cJ6_bitCount_0f7a4 23 = .ok (.istore_n 0, 1) := by decide +kernel
theorem dJ6_bitCount_0f7a4_24 : decode cJ6_bitCount_0f7a4 24 = .ok (.iload_n 0, 1) := by decide +kernel
theorem dJ6_bitCount_0f7a4_25 : decode cJ6_bitCount_0f7a4 25 = .ok (.iload_n 0, 1) := by decide +kernel
theorem dJ6_bitCount_0f7a4_26 : decode cJ6_bitCount_0f7a4 26 = .ok (.iconst 4, 1) := by decide +kernel
theorem dJ6_bitCount_0f7a4_27 : decode cJ6_bitCount_0f7a4 27 = .ok (.iushr, 1) := by decide +kernel
theorem dJ6_bitCount_0f7a4_28 : decode cJ6_bitCount_0f7a4 28 = .ok (.iadd, 1) := by decide +kernel
theorem dJ6_bitCount_0f7a4_29 : decode cJ6_bitCount_0f7a4 29 = .ok (.ldc_w 267, 3) := by decide +kernel
theorem dJ6_bitCount_0f7a4_32 : decode cJ6_bitCount_0f7a4 32 = .ok (.iand, 1) := by decide +kernel
theorem dJ6_bitCount_0f7a4_33 : decode cJ6_bitCount_0f7a4 33 = .ok (.istore_n 0, 1) := by decide +kernel
theorem dJ6_bitCount_0f7a4_34 : decode cJ6_bitCount_0f7a4 34 = .ok (.iload_n 0, 1) := by decide +kernel
theorem dJ6_bitCount_0f7a4_35 : decode cJ6_bitCount_0f7a4 35 = .ok (.iload_n 0, 1) := by decide +kernel
theorem dJ6_bitCount_0f7a4_36 : decode cJ6_bitCount_0f7a4 36 = .ok (.bipush 8, 2) := by decide +kernel
theorem dJ6_bitCount_0f7a4_38 : decode cJ6_bitCount_0f7a4 38 = .ok (.iushr, 1) := by decide +kernel
theorem dJ6_bitCount_0f7a4_39 : decode cJ6_bitCount_0f7a4 39 = .ok (.iadd, 1) := by decide +kernel
theorem dJ6_bitCount_0f7a4_40 : decode cJ6_bitCount_0f7a4 40 = .ok (.istore_n 0, 1) := by decide +kernel
theorem dJ6_bitCount_0f7a4_41 : decode cJ6_bitCount_0f7a4 41 = .ok (.iload_n 0, 1) := by decide +kernel
theorem dJ6_bitCount_0f7a4_42 : decode cJ6_bitCount_0f7a4 42 = .ok (.iload_n 0, 1) := by decide +kernel
theorem dJ6_bitCount_0f7a4_43 : decode cJ6_bitCount_0f7a4 43 = .ok (.bipush 16, 2) := by decide +kernel
theorem dJ6_bitCount_0f7a4_45 : decode cJ6_bitCount_0f7a4 45 = .ok (.iushr, 1) := by decide +kernel
theorem dJ6_bitCount_0f7a4_46 : decode cJ6_bitCount_0f7a4 46 = .ok (.iadd, 1) := by decide +kernel
theorem dJ6_bitCount_0f7a4_47 : decode cJ6_bitCount_0f7a4 47 = .ok (.istore_n 0, 1) := by decide +kernel
theorem dJ6_bitCount_0f7a4_48 : decode cJ6_bitCount_0f7a4 48 = .ok (.iload_n 0, 1) := by decide +kernel
theorem dJ6_bitCount_0f7a4_49 : decode cJ6_bitCount_0f7a4 49 = .ok (.bipush 63, 2) := by decide +kernel
theorem dJ6_bitCount_0f7a4_51 : decode cJ6_bitCount_0f7a4 51 = .ok (.iand, 1) := by decide +kernel
theorem dJ6_bitCount_0f7a4_52 : decode cJ6_bitCount_0f7a4 52 = .ok (.ireturn, 1) := by decide +kernel
theorem dJ9_abs_0f7a4_0 : decode cJ9_abs_0f7a4 0 = .ok (.iload_n 0, 1) := by decide +kernel
theorem dJ9_abs_0f7a4_1 : decode cJ9_abs_0f7a4 1 = .ok (.ifCond .ge 8, 3) := by decide +kernel
theorem dJ9_abs_0f7a4_4 : decode cJ9_abs_0f7a4 4 = .ok (.iload_n 0, 1) := by decide +kernel
theorem dJ9_abs_0f7a4_5 : decode cJ9_abs_0f7a4 5 = .ok (.ineg, 1) := by decide +kernel
theorem dJ9_abs_0f7a4_6 : decode cJ9_abs_0f7a4 6 = .ok (.goto 4, 3) := by decide +kernel
theorem dJ9_abs_0f7a4_9 : decode cJ9_abs_0f7a4 9 = .ok (.iload_n 0, 1) := by decide +kernel
theorem dJ9_abs_0f7a4_10 : decode cJ9_abs_0f7a4 10 = .ok (.ireturn, 1) := by decide +kernel
theorem dJ9_max_7cf53_0 : decode cJ9_max_7cf53 0 = .ok (.iload_n 0, 1) := by decide +kernel
theorem dJ9_max_7cf53_1 : decode cJ9_max_7cf53 1 = .ok (.iload_n 1, 1) := by decide +kernel
theorem dJ9_max_7cf53_2 : decode cJ9_max_7cf53 2 = .ok (.if_icmp .lt 7, 3) := by decide +kernel
theorem dJ9_max_7cf53_5 : decode cJ9_max_7cf53 5 = .ok (.iload_n 0, 1) := by decide +kernel
theorem dJ9_max_7cf53_6 : decode cJ9_max_7cf53 6 = .ok (.goto 4, 3) := by decide +kernel
theorem dJ9_max_7cf53_9 : decode cJ9_max_7cf53 9 = .ok (.iload_n 1, 1) := by decide +kernel
theorem dJ9_max_7cf53_10 : decode cJ9_max_7cf53 10 = .ok (.ireturn, 1) := by decide +kernel
theorem dJ9_min_7cf53_0 : decode cJ9_min_7cf53 0 = .ok (.iload_n 0, 1) := by decide +kernel
theorem dJ9_min_7cf53_1 : decode cJ9_min_7cf53 1 = .ok (.iload_n 1, 1) := by decide +kernel
theorem dJ9_min_7cf53_2 : decode cJ9_min_7cf53 2 = .ok (.if_icmp .gt 7, 3) := by decide +kernel
theorem dJ9_min_7cf53_5 : decode cJ9_min_7cf53 5 = .ok (.iload_n 0, 1) := by decide +kernel
theorem dJ9_min_7cf53_6 : decode cJ9_min_7cf53 6 = .ok (.goto 4, 3) := by decide +kernel
theorem dJ9_min_7cf53_9 : decode cJ9_min_7cf53 9 = .ok (.iload_n 1, 1) := by decide +kernel
theorem dJ9_min_7cf53_10 : decode cJ9_min_7cf53 10 = .ok (.ireturn, 1) := by decide +kernel
theorem dX0_init_0 : decode cX0_init 0 = .ok (.aload_n 0, 1) := by decide +kernel
theorem dX0_init_1 : decode cX0_init 1 = .ok (.invokespecial 3, 3) := by decide +kernel
theorem dX0_init_4 : decode cX0_init 4 = .ok (.aload_n 0, 1) := by decide +kernel
theorem dX0_init_5 : decode cX0_init 5 = .ok (.bipush 100, 2) := by decide +kernel
theorem dX0_init_7 : decode cX0_init 7 = .ok (.newarray .int, 2) := by decide +kernel
theorem dX0_init_9 : decode cX0_init 9 = .ok (.putfield 9, 3) := by decide +kernel
theorem dX0_init_12 : decode cX0_init 12 = .ok (.aload_n 0, 1) := by decide +kernel
theorem dX0_init_13 : decode cX0_init 13 = .ok (.bipush 100, 2) := by decide +kernel
theorem dX0_init_15 : decode cX0_init 15 = .ok (.newarray .int, 2) := by decide +kernel
theorem dX0_init_17 : decode cX0_init 17 = .ok (.putfield 15, 3) := by decide +kernel
theorem dX0_init_20 : decode cX0_init 20 = .ok (.return_, 1) := by decide +kernel
theorem dX0_span_0 : decode cX0_span 0 = .ok (.iconst 0, 1) := by decide +kernel
theorem dX0_span_1 : decode cX0_span 1 = .ok (.istore_n 3, 1) := by decide +kernel
theorem dX0_span_2 : decode cX0_span 2 = .ok (.iload_n 3, 1) := by decide +kernel
theorem dX0_span_3 : decode cX0_span 3 = .ok (.bipush 99, 2) := by decide +kernel
theorem dX0_span_5 : decode cX0_span 5 = .ok (.if_icmp .gt 26, 3) := by decide +kernel
theorem dX0_span_8 : decode cX0_span 8 = .ok (.aload_n 0, 1) := by decide +kernel
theorem dX0_span_9 : decode cX0_span 9 = .ok (.getfield 9, 3) := by decide +kernel
theorem dX0_span_12 : decode cX0_span 12 = .ok (.iload_n 3, 1) := by decide +kernel
theorem dX0_span_13 : decode cX0_span 13 = .ok (.sipush 201, 3) := by decide +kernel
theorem dX0_span_16 : decode cX0_span 16 = .ok (.iastore, 1) := by decide +kernel
theorem dX0_span_17 : decode cX0_span 17 = .ok (.aload_n 0, 1) := by decide +kernel
theorem dX0_span_18 : decode cX0_span 18 = .ok (.getfield 15, 3) := by decide +kernel
theorem dX0_span_21 : decode cX0_span 21 = .ok (.iload_n 3, 1) := by decide +kernel
theorem dX0_span_22 : decode cX0_span 22 = .ok (.bipush (-4), 2) := by decide +kernel
theorem dX0_span_24 : decode cX0_span 24 = .ok (.iastore, 1) := by decide +kernel
theorem dX0_span_25 : decode cX0_span 25 = .ok (.iinc 3 1, 3) := by decide +kernel
theorem dX0_span_28 : decode cX0_span 28 = .ok (.goto (-26), 3) := by decide +kernel
theorem dX0_span_31 : decode cX0_span 31 = .ok (.iconst 0, 1) := by decide +kernel
theorem dX0_span_32 : decode cX0_span 32 = .ok (.istore_n 3, 1) := by decide +kernel
theorem dX0_span_33 : decode cX0_span 33 = .ok (.iload_n 3, 1) := by decide +kernel
theorem dX0_span_34 : decode cX0_span 34 = .ok (.aload_n 2, 1) := by decide +kernel
theorem dX0_span_35 : decode cX0_span 35 = .ok (.getfield 18, 3) := by decide +kernel
theorem dX0_span_38 : decode cX0_span 38 = .ok (.if_icmp .ge 27, 3) := by decide +kernel
theorem dX0_span_41 : decode cX0_span 41 = .ok (.aload_n 1, 1) := by decide +kernel
theorem dX0_span_42 : decode cX0_span 42 = .ok (.getfield 24, 3) := by decide +kernel
theorem dX0_span_45 : decode cX0_span 45 = .ok (.iload_n 3, 1) := by decide +kernel
theorem dX0_span_46 : decode cX0_span 46 = .ok (.iaload, 1) := by decide +kernel
theorem dX0_span_47 : decode cX0_span 47 = .ok (.bipush (-4), 2) := by decide +kernel
theorem dX0_span_49 : decode cX0_span 49 = .ok (.if_icmp .ne 10, 3) := by decide +kernel
theorem dX0_span_52 : decode cX0_span 52 = .ok (.aload_n 0, 1) := by decide +kernel
theorem dX0_span_53 : decode cX0_span 53 = .ok (.aload_n 1, 1) := by decide +kernel
theorem dX0_span_54 : decode cX0_span 54 = .ok (.aload_n 2, 1) := by decide +kernel
theorem dX0_span_55 : decode cX0_span 55 = .ok (.iload_n 3, 1) := by decide +kernel
theorem dX0_span_56 : decode cX0_span 56 = .ok (.invokevirtual 29, 3) := by decide +kernel
theorem dX0_span_59 : decode cX0_span 59 = .ok (.iinc 3 1, 3) := by decide +kernel
theorem dX0_span_62 : decode cX0_span 62 = .ok (.goto (-29), 3) := by decide +kernel
theorem dX0_span_65 : decode cX0_span 65 = .ok (.iconst 1, 1) := by decide +kernel
theorem dX0_span_66 : decode cX0_span 66 = .ok (.istore_n 3, 1) := by decide +kernel
theorem dX0_span_67 : decode cX0_span 67 = .ok (.iload_n 3, 1) := by decide +kernel
theorem dX0_span_68 : decode cX0_span 68 = .ok (.bipush 99, 2) := by decide +kernel
theorem dX0_span_70 : decode cX0_span 70 = .ok (.if_icmp .gt 36, 3) := by decide +kernel
theorem dX0_span_73 : decode cX0_span 73 = .ok (.aload_n 0, 1) := by decide +kernel
theorem dX0_span_74 : decode cX0_span 74 = .ok (.getfield 15, 3) := by decide +kernel
theorem dX0_span_77 : decode cX0_span 77 = .ok (.iload_n 3, 1) := by decide +kernel
theorem dX0_span_78 : decode cX0_span 78 = .ok (.iaload, 1) := by decide +kernel
theorem dX0_span_79 : decode cX0_span 79 = .ok (.bipush (-4), 2) := by decide +kernel
theorem dX0_span_81 : decode cX0_span 81 = .ok (.if_icmp .eq 19, 3) := by decide +kernel
theorem dX0_span_84 : decode cX0_span 84 = .ok (.aload_n 0, 1) := by decide +kernel
theorem dX0_span_85 : decode cX0_span 85 = .ok (.getfield 15, 3) := by decide +kernel
theorem dX0_span_88 : decode cX0_span 88 = .ok (.iload_n 3, 1) := by decide +kernel
theorem dX0_span_89 : decode cX0_span 89 = .ok (.aload_n 1, 1) := by decide +kernel
theorem dX0_span_90 : decode cX0_span 90 = .ok (.aload_n 0, 1) := by decide +kernel
theorem dX0_span_91 : decode cX0_span 91 = .ok (.getfield 15, 3) := by decide +kernel
theorem dX0_span_94 : decode cX0_span 94 = .ok (.iload_n 3, 1) := by decide +kernel
theorem dX0_span_95 : decode cX0_span 95 = .ok (.iaload, 1) := by decide +kernel
theorem dX0_span_96 : decode cX0_span 96 = .ok (.invokevirtual 33, 3) := by decide +kernel
theorem dX0_span_99 : decode cX0_span 99 = .ok (.iastore, 1) := by decide +kernel
theorem dX0_span_100 : decode cX0_span 100 = .ok (.iinc 3 1, 3) := by decide +kernel
theorem dX0_span_103 : decode cX0_span 103 = .ok (.goto (-36), 3) := by decide +kernel
theorem dX0_span_106 : decode cX0_span 106 = .ok (.return_, 1) := by decide +kernel
theorem dX0_crossWidest_0 : decode cX0_crossWidest 0 = .ok (.aload_n 1, 1) := by decide +kernel
theorem dX0_crossWidest_1 : decode cX0_crossWidest 1 = .ok (.iload_n 3, 1) := by decide +kernel
theorem dX0_crossWidest_2 : decode cX0_crossWidest 2 = .ok (.invokevirtual 37, 3) := by decide +kernel
theorem dX0_crossWidest_5 : decode cX0_crossWidest 5 = .ok (.iconst 0, 1) := by decide +kernel
theorem dX0_crossWidest_6 : decode cX0_crossWidest 6 = .ok (.istore 4, 2) := by decide +kernel
theorem dX0_crossWidest_8 : decode cX0_crossWidest 8 = .ok (.aload_n 1, 1) := by decide +kernel
theorem dX0_crossWidest_9 : decode cX0_crossWidest 9 = .ok (.getfield 41, 3) := by decide +kernel
theorem dX0_crossWidest_12 : decode cX0_crossWidest 12 = .ok (.iconst 1, 1) := by decide +kernel
theorem dX0_crossWidest_13 : decode cX0_crossWidest 13 = .ok (.iadd, 1) := by decide +kernel
theorem dX0_crossWidest_14 : decode cX0_crossWidest 14 = .ok (.istore 5, 2) := by decide +kernel
theorem dX0_crossWidest_16 : decode cX0_crossWidest 16 = .ok (.iload 5, 2) := by decide +kernel
theorem dX0_crossWidest_18 : decode cX0_crossWidest 18 = .ok (.sipush 200, 3) := by decide +kernel
theorem dX0_crossWidest_21 : decode cX0_crossWidest 21 = .ok (.if_icmp .gt 65, 3) := by decide +kernel
theorem dX0_crossWidest_24 : decode cX0_crossWidest 24 = .ok (.iload 4, 2) := by decide +kernel
theorem dX0_crossWidest_26 : decode cX0_crossWidest 26 = .ok (.bipush 99, 2) := by decide +kernel
theorem dX0_crossWidest_28 : decode cX0_crossWidest 28 = .ok (.if_icmp .ge 58, 3) := by decide +kernel
theorem dX0_crossWidest_31 : decode cX0_crossWidest 31 = .ok (.iload 4, 2) := by decide +kernel
theorem dX0_crossWidest_33 : decode cX0_crossWidest 33 = .ok (.istore 6, 2) := by decide +kernel
theorem dX0_crossWidest_35 : decode cX0_crossWidest 35 = .ok (.bipush 99, 2) := by decide +kernel
theorem dX0_crossWidest_37 : decode cX0_crossWidest 37 = .ok (.iload 4, 2) := by decide +kernel
theorem dX0_crossWidest_39 : decode cX0_crossWidest 39 = .ok (.aload_n 1, 1) := by decide +kernel
theorem dX0_crossWidest_40 : decode cX0_crossWidest 40 = .ok (.iload 5, 2) := by decide +kernel
theorem dX0_crossWidest_42 : decode cX0_crossWidest 42 = .ok (.invokevirtual 44, 3) := by decide +kernel
theorem dX0_crossWidest_45 : decode cX0_crossWidest 45 = .ok (.iadd, 1) := by decide +kernel
theorem dX0_crossWidest_46 : decode cX0_crossWidest 46 = .ok (.invokestatic 47, 3) := by decide +kernel
theorem dX0_crossWidest_49 : decode cX0_crossWidest 49 = .ok (.istore 4, 2) := by decide +kernel
theorem dX0_crossWidest_51 : decode cX0_crossWidest 51 = .ok (.iload 6, 2) := by decide +kernel
theorem dX0_crossWidest_53 : decode cX0_crossWidest 53 = .ok (.iconst 1, 1) := by decide +kernel
theorem dX0_crossWidest_54 : decode cX0_crossWidest 54 = .ok (.iadd, 1) := by decide +kernel
theorem dX0_crossWidest_55 : decode cX0_crossWidest 55 = .ok (.istore 7, 2) := by decide +kernel
theorem dX0_crossWidest_57 : decode cX0_crossWidest 57 = .ok (.iload 7, 2) := by decide +kernel
theorem dX0_crossWidest_59 : decode cX0_crossWidest 59 = .ok (.iload 4, 2) := by decide +kernel
theorem dX0_crossWidest_61 : decode cX0_crossWidest 61 = .ok (.if_icmp .gt 19, 3) := by decide +kernel
theorem dX0_crossWidest_64 : decode cX0_crossWidest 64 = .ok (.aload_n 0, 1) := by decide +kernel
theorem dX0_crossWidest_65 : decode cX0_crossWidest 65 = .ok (.aload_n 2, 1) := by decide +kernel
theorem dX0_crossWidest_66 : decode cX0_crossWidest 66 = .ok (.iload 7, 2) := by decide +kernel
theorem dX0_crossWidest_68 : decode cX0_crossWidest 68 = .ok (.iload 5, 2) := by decide +kernel
theorem dX0_crossWidest_70 : decode cX0_crossWidest 70 = .ok (.iload_n 3, 1) := by decide +kernel
theorem dX0_crossWidest_71 : decode cX0_crossWidest 71 = .ok (.invokevirtual 53, 3) := by decide +kernel
theorem dX0_crossWidest_74 : decode cX0_crossWidest 74 = .ok (.iinc 7 1, 3) := by decide +kernel
theorem dX0_crossWidest_77 : decode cX0_crossWidest 77 = .ok (.goto (-20), 3) := by decide +kernel
theorem dX0_crossWidest_80 : decode cX0_crossWidest 80 = .ok (.iinc 5 1, 3) := by decide +kernel
theorem dX0_crossWidest_83 : decode cX0_crossWidest 83 = .ok (.goto (-67), 3) := by decide +kernel
theorem dX0_crossWidest_86 : decode cX0_crossWidest 86 = .ok (.return_, 1) := by decide +kernel
theorem dX0_offer_0 : decode cX0_offer 0 = .ok (.iload_n 3, 1) := by decide +kernel
theorem dX0_offer_1 : decode cX0_offer 1 = .ok (.aload_n 0, 1) := by decide +kernel
theorem dX0_offer_2 : decode cX0_offer 2 = .ok (.getfield 9, 3) := by decide +kernel
theorem dX0_offer_5 : decode cX0_offer 5 = .ok (.iload_n 2, 1) := by decide +kernel
theorem dX0_offer_6 : decode cX0_offer 6 = .ok (.iaload, 1) := by decide +kernel
theorem dX0_offer_7 : decode cX0_offer 7 = .ok (.if_icmp .ge 7, 3) := by decide +kernel
theorem dX0_offer_10 : decode cX0_offer 10 = .ok (.iconst 1, 1) := by decide +kernel
theorem dX0_offer_11 : decode cX0_offer 11 = .ok (.goto 4, 3) := by decide +kernel
theorem dX0_offer_14 : decode cX0_offer 14 = .ok (.iconst 0, 1) := by decide +kernel
theorem dX0_offer_15 : decode cX0_offer 15 = .ok (.istore 5, 2) := by decide +kernel
theorem dX0_offer_17 : decode cX0_offer 17 = .ok (.iload_n 3, 1) := by decide +kernel
theorem dX0_offer_18 : decode cX0_offer 18 = .ok (.aload_n 0, 1) := by decide +kernel
theorem dX0_offer_19 : decode cX0_offer 19 = .ok (.getfield 9, 3) := by decide +kernel
theorem dX0_offer_22 : decode cX0_offer 22 = .ok (.iload_n 2, 1) := by decide +kernel
theorem dX0_offer_23 : decode cX0_offer 23 = .ok (.iaload, 1) := by decide +kernel
theorem dX0_offer_24 : decode cX0_offer 24 = .ok (.if_icmp .ne 41, 3) := by decide +kernel
theorem dX0_offer_27 : decode cX0_offer 27 = .ok (.aload_n 1, 1) := by decide +kernel
theorem dX0_offer_28 : decode cX0_offer 28 = .ok (.aload_n 0, 1) := by decide +kernel
theorem dX0_offer_29 : decode cX0_offer 29 = .ok (.getfield 15, 3) := by decide +kernel
theorem dX0_offer_32 : decode cX0_offer 32 = .ok (.iload_n 2, 1) := by decide +kernel
theorem dX0_offer_33 : decode cX0_offer 33 = .ok (.iaload, 1) := by decide +kernel
theorem dX0_offer_34 : decode cX0_offer 34 = .ok (.invokevirtual 57, 3) := by decide +kernel
theorem dX0_offer_37 : decode cX0_offer 37 = .ok (.ifCond .eq 28, 3) := by decide +kernel
theorem dX0_offer_40 : decode cX0_offer 40 = .ok (.aload_n 1, 1) := by decide +kernel
theorem dX0_offer_41 : decode cX0_offer 41 = .ok (.getfield 61, 3) := by decide +kernel
theorem dX0_offer_44 : decode cX0_offer 44 = .ok (.iload 4, 2) := by decide +kernel
theorem dX0_offer_46 : decode cX0_offer 46 = .ok (.iaload, 1) := by decide +kernel
theorem dX0_offer_47 : decode cX0_offer 47 = .ok (.aload_n 1, 1) := by decide +kernel
theorem dX0_offer_48 : decode cX0_offer 48 = .ok (.getfield 61, 3) := by decide +kernel
theorem dX0_offer_51 : decode cX0_offer 51 = .ok (.aload_n 0, 1) := by decide +kernel
theorem dX0_offer_52 : decode cX0_offer 52 = .ok (.getfield 15, 3) := by decide +kernel
theorem dX0_offer_55 : decode cX0_offer 55 = .ok (.iload_n 2, 1) := by decide +kernel
theorem dX0_offer_56 : decode cX0_offer 56 = .ok (.iaload, 1) := by decide +kernel
theorem dX0_offer_57 : decode cX0_offer 57 = .ok (.iaload, 1) := by decide +kernel
theorem dX0_offer_58 : decode cX0_offer 58 = .ok (.if_icmp .ge 7, 3) := by decide +kernel
theorem dX0_offer_61 : decode cX0_offer 61 = .ok (.iconst 1, 1) := by decide +kernel
theorem dX0_offer_62 : decode cX0_offer 62 = .ok (.goto 4, 3) := by decide +kernel
theorem dX0_offer_65 : decode cX0_offer 65 = .ok (.iconst 0, 1) := by decide +kernel
theorem dX0_offer_66 : decode cX0_offer 66 = .ok (.istore 6, 2) := by decide +kernel
theorem dX0_offer_68 : decode cX0_offer 68 = .ok (.iload 5, 2) := by decide +kernel
theorem dX0_offer_70 : decode cX0_offer 70 = .ok (.ifCond .ne 8, 3) := by decide +kernel
theorem dX0_offer_73 : decode cX0_offer 73 = .ok (.iload 6, 2) := by decide +kernel
theorem dX0_offer_75 : decode cX0_offer 75 = .ok (.ifCond .eq 18, 3) := by decide +kernel
theorem dX0_offer_78 : decode cX0_offer 78 = .ok (.aload_n 0, 1) := by decide +kernel
theorem dX0_offer_79 : decode cX0_offer 79 = .ok (.getfield 9, 3) := by decide +kernel
theorem dX0_offer_82 : decode cX0_offer 82 = .ok (.iload_n 2, 1) := by decide +kernel
theorem dX0_offer_83 : decode cX0_offer 83 = .ok (.iload_n 3, 1) := by decide +kernel
theorem dX0_offer_84 : decode cX0_offer 84 = .ok (.iastore, 1) := by decide +kernel
theorem dX0_offer_85 : decode cX0_offer 85 = .ok (.aload_n 0, 1) := by decide +kernel
theorem dX0_offer_86 : decode cX0_offer 86 = .ok (.getfield 15, 3) := by decide +kernel
theorem dX0_offer_89 : decode cX0_offer 89 = .ok (.iload_n 2, 1) := by decide +kernel
theorem dX0_offer_90 : decode cX0_offer 90 = .ok (.iload 4, 2) := by decide +kernel
theorem dX0_offer_92 : decode cX0_offer 92 = .ok (.iastore, 1) := by decide +kernel
theorem dX0_offer_93 : decode cX0_offer 93 = .ok (.return_, 1) := by decide +kernel
theorem dX0_firstBits_0 : decode cX0_firstBits 0 = .ok (.iconst 0, 1) := by decide +kernel
theorem dX0_firstBits_1 : decode cX0_firstBits 1 = .ok (.istore_n 1, 1) := by decide +kernel
theorem dX0_firstBits_2 : decode cX0_firstBits 2 = .ok (.iconst 1, 1) := by decide +kernel
theorem dX0_firstBits_3 : decode cX0_firstBits 3 = .ok (.istore_n 2, 1) := by decide +kernel
theorem dX0_firstBits_4 : decode cX0_firstBits 4 = .ok (.iload_n 2, 1) := by decide +kernel
theorem dX0_firstBits_5 : decode cX0_firstBits 5 = .ok (.bipush 99, 2) := by decide +kernel
theorem dX0_firstBits_7 : decode cX0_firstBits 7 = .ok (.if_icmp .gt 33, 3) := by decide +kernel
theorem dX0_firstBits_10 : decode cX0_firstBits 10 = .ok (.iload_n 1, 1) := by decide +kernel
theorem dX0_firstBits_11 : decode cX0_firstBits 11 = .ok (.aload_n 0, 1) := by decide +kernel
theorem dX0_firstBits_12 : decode cX0_firstBits 12 = .ok (.getfield 15, 3) := by decide +kernel
theorem dX0_firstBits_15 : decode cX0_firstBits 15 = .ok (.iload_n 2, 1) := by decide +kernel
theorem dX0_firstBits_16 : decode cX0_firstBits 16 = .ok (.iaload, 1) := by decide +kernel
theorem dX0_firstBits_17 : decode cX0_firstBits 17 = .ok (.ifCond .ge 7, 3) := by decide +kernel
theorem dX0_firstBits_20 : decode cX0_firstBits 20 = .ok (.iconst 0, 1) := by decide +kernel
theorem dX0_firstBits_21 : decode cX0_firstBits 21 = .ok (.goto 11, 3) := by decide +kernel
theorem dX0_firstBits_24 : decode cX0_firstBits 24 = .ok (.iconst 1, 1) := by decide +kernel
theorem dX0_firstBits_25 : decode cX0_firstBits 25 = .ok (.aload_n 0, 1) := by decide +kernel
theorem dX0_firstBits_26 : decode cX0_firstBits 26 = .ok (.getfield 15, 3) := by decide +kernel
theorem dX0_firstBits_29 : decode cX0_firstBits 29 = .ok (.iload_n 2, 1) := by decide +kernel
theorem dX0_firstBits_30 : decode cX0_firstBits 30 = .ok (.iaload, 1) := by decide +kernel
theorem dX0_firstBits_31 : decode cX0_firstBits 31 = .ok (.ishl, 1) := by decide +kernel
theorem dX0_firstBits_32 : decode cX0_firstBits 32 = .ok (.ior, 1) := by decide +kernel
theorem dX0_firstBits_33 : decode cX0_firstBits 33 = .ok (.istore_n 1, 1) := by decide +kernel
theorem dX0_firstBits_34 : decode cX0_firstBits 34 = .ok (.iinc 2 1, 3) := by decide +kernel
theorem dX0_firstBits_37 : decode cX0_firstBits 37 = .ok (.goto (-33), 3) := by decide +kernel
theorem dX0_firstBits_40 : decode cX0_firstBits 40 = .ok (.iload_n 1, 1) := by decide +kernel
theorem dX0_firstBits_41 : decode cX0_firstBits 41 = .ok (.ireturn, 1) := by decide +kernel
theorem dX0_widthsOf_0 : decode cX0_widthsOf 0 = .ok (.iconst 0, 1) := by decide +kernel
theorem dX0_widthsOf_1 : decode cX0_widthsOf 1 = .ok (.istore_n 2, 1) := by decide +kernel
theorem dX0_widthsOf_2 : decode cX0_widthsOf 2 = .ok (.iconst 1, 1) := by decide +kernel
theorem dX0_widthsOf_3 : decode cX0_widthsOf 3 = .ok (.istore_n 3, 1) := by decide +kernel
theorem dX0_widthsOf_4 : decode cX0_widthsOf 4 = .ok (.iload_n 3, 1) := by decide +kernel
theorem dX0_widthsOf_5 : decode cX0_widthsOf 5 = .ok (.bipush 99, 2) := by decide +kernel
theorem dX0_widthsOf_7 : decode cX0_widthsOf 7 = .ok (.if_icmp .gt 27, 3) := by decide +kernel
theorem dX0_widthsOf_10 : decode cX0_widthsOf 10 = .ok (.iload_n 2, 1) := by decide +kernel
theorem dX0_widthsOf_11 : decode cX0_widthsOf 11 = .ok (.aload_n 0, 1) := by decide +kernel
theorem dX0_widthsOf_12 : decode cX0_widthsOf 12 = .ok (.getfield 15, 3) := by decide +kernel
theorem dX0_widthsOf_15 : decode cX0_widthsOf 15 = .ok (.iload_n 3, 1) := by decide +kernel
theorem dX0_widthsOf_16 : decode cX0_widthsOf 16 = .ok (.iaload, 1) := by decide +kernel
theorem dX0_widthsOf_17 : decode cX0_widthsOf 17 = .ok (.iload_n 1, 1) := by decide +kernel
theorem dX0_widthsOf_18 : decode cX0_widthsOf 18 = .ok (.if_icmp .ne 7, 3) := by decide +kernel
theorem dX0_widthsOf_21 : decode cX0_widthsOf 21 = .ok (.iconst 1, 1) := by decide +kernel
theorem dX0_widthsOf_22 : decode cX0_widthsOf 22 = .ok (.goto 4, 3) := by decide +kernel
theorem dX0_widthsOf_25 : decode cX0_widthsOf 25 = .ok (.iconst 0, 1) := by decide +kernel
theorem dX0_widthsOf_26 : decode cX0_widthsOf 26 = .ok (.iadd, 1) := by decide +kernel
theorem dX0_widthsOf_27 : decode cX0_widthsOf 27 = .ok (.istore_n 2, 1) := by decide +kernel
theorem dX0_widthsOf_28 : decode cX0_widthsOf 28 = .ok (.iinc 3 1, 3) := by decide +kernel
theorem dX0_widthsOf_31 : decode cX0_widthsOf 31 = .ok (.goto (-27), 3) := by decide +kernel
theorem dX0_widthsOf_34 : decode cX0_widthsOf 34 = .ok (.iload_n 2, 1) := by decide +kernel
theorem dX0_widthsOf_35 : decode cX0_widthsOf 35 = .ok (.ireturn, 1) := by decide +kernel
theorem dX1_init_0 : decode cX1_init 0 = .ok (.aload_n 0, 1) := by decide +kernel
theorem dX1_init_1 : decode cX1_init 1 = .ok (.invokespecial 3, 3) := by decide +kernel
theorem dX1_init_4 : decode cX1_init 4 = .ok (.aload_n 0, 1) := by decide +kernel
theorem dX1_init_5 : decode cX1_init 5 = .ok (.bipush 8, 2) := by decide +kernel
theorem dX1_init_7 : decode cX1_init 7 = .ok (.newarray .int, 2) := by decide +kernel
theorem dX1_init_9 : decode cX1_init 9 = .ok (.putfield 9, 3) := by decide +kernel
theorem dX1_init_12 : decode cX1_init 12 = .ok (.aload_n 0, 1) := by decide +kernel
theorem dX1_init_13 : decode cX1_init 13 = .ok (.bipush 8, 2) := by decide +kernel
theorem dX1_init_15 : decode cX1_init 15 = .ok (.newarray .int, 2) := by decide +kernel
theorem dX1_init_17 : decode cX1_init 17 = .ok (.putfield 15, 3) := by decide +kernel
theorem dX1_init_20 : decode cX1_init 20 = .ok (.aload_n 0, 1) := by decide +kernel
theorem dX1_init_21 : decode cX1_init 21 = .ok (.bipush 8, 2) := by decide +kernel
theorem dX1_init_23 : decode cX1_init 23 = .ok (.newarray .int, 2) := by decide +kernel
theorem dX1_init_25 : decode cX1_init 25 = .ok (.putfield 18, 3) := by decide +kernel
theorem dX1_init_28 : decode cX1_init 28 = .ok (.aload_n 0, 1) := by decide +kernel
theorem dX1_init_29 : decode cX1_init 29 = .ok (.iconst 0, 1) := by decide +kernel
theorem dX1_init_30 : decode cX1_init 30 = .ok (.putfield 21, 3) := by decide +kernel
theorem dX1_init_33 : decode cX1_init 33 = .ok (.return_, 1) := by decide +kernel
theorem dX1_clear_0 : decode cX1_clear 0 = .ok (.aload_n 0, 1) := by decide +kernel
theorem dX1_clear_1 : decode cX1_clear 1 = .ok (.iconst 0, 1) := by decide +kernel
theorem dX1_clear_2 : decode cX1_clear 2 = .ok (.putfield 21, 3) := by decide +kernel
theorem dX1_clear_5 : decode cX1_clear 5 = .ok (.return_, 1) := by decide +kernel
theorem dX1_note_0 : decode cX1_note 0 = .ok (.aload_n 0, 1) := by decide +kernel
theorem dX1_note_1 : decode cX1_note 1 = .ok (.getfield 21, 3) := by decide +kernel
theorem dX1_note_4 : decode cX1_note 4 = .ok (.bipush 8, 2) := by decide +kernel
theorem dX1_note_6 : decode cX1_note 6 = .ok (.if_icmp .lt 7, 3) := by decide +kernel
theorem dX1_note_9 : decode cX1_note 9 = .ok (.aload_n 0, 1) := by decide +kernel
theorem dX1_note_10 : decode cX1_note 10 = .ok (.invokevirtual 25, 3) := by decide +kernel
theorem dX1_note_13 : decode cX1_note 13 = .ok (.aload_n 0, 1) := by decide +kernel
theorem dX1_note_14 : decode cX1_note 14 = .ok (.getfield 9, 3) := by decide +kernel
theorem dX1_note_17 : decode cX1_note 17 = .ok (.aload_n 0, 1) := by decide +kernel
theorem dX1_note_18 : decode cX1_note 18 = .ok (.getfield 21, 3) := by decide +kernel
theorem dX1_note_21 : decode cX1_note 21 = .ok (.iload_n 2, 1) := by decide +kernel
theorem dX1_note_22 : decode cX1_note 22 = .ok (.iastore, 1) := by decide +kernel
theorem dX1_note_23 : decode cX1_note 23 = .ok (.aload_n 0, 1) := by decide +kernel
theorem dX1_note_24 : decode cX1_note 24 = .ok (.getfield 15, 3) := by decide +kernel
theorem dX1_note_27 : decode cX1_note 27 = .ok (.aload_n 0, 1) := by decide +kernel
theorem dX1_note_28 : decode cX1_note 28 = .ok (.getfield 21, 3) := by decide +kernel
theorem dX1_note_31 : decode cX1_note 31 = .ok (.aload_n 1, 1) := by decide +kernel
theorem dX1_note_32 : decode cX1_note 32 = .ok (.getfield 28, 3) := by decide +kernel
theorem dX1_note_35 : decode cX1_note 35 = .ok (.iload_n 2, 1) := by decide +kernel
theorem dX1_note_36 : decode cX1_note 36 = .ok (.iaload, 1) := by decide +kernel
theorem dX1_note_37 : decode cX1_note 37 = .ok (.iastore, 1) := by decide +kernel
theorem dX1_note_38 : decode cX1_note 38 = .ok (.aload_n 0, 1) := by decide +kernel
theorem dX1_note_39 : decode cX1_note 39 = .ok (.getfield 18, 3) := by decide +kernel
theorem dX1_note_42 : decode cX1_note 42 = .ok (.aload_n 0, 1) := by decide +kernel
theorem dX1_note_43 : decode cX1_note 43 = .ok (.getfield 21, 3) := by decide +kernel
theorem dX1_note_46 : decode cX1_note 46 = .ok (.aload_n 1, 1) := by decide +kernel
theorem dX1_note_47 : decode cX1_note 47 = .ok (.getfield 33, 3) := by decide +kernel
theorem dX1_note_50 : decode cX1_note 50 = .ok (.iload_n 2, 1) := by decide +kernel
theorem dX1_note_51 : decode cX1_note 51 = .ok (.iaload, 1) := by decide +kernel
theorem dX1_note_52 : decode cX1_note 52 = .ok (.iastore, 1) := by decide +kernel
theorem dX1_note_53 : decode cX1_note 53 = .ok (.aload_n 0, 1) := by decide +kernel
theorem dX1_note_54 : decode cX1_note 54 = .ok (.dup, 1) := by decide +kernel
theorem dX1_note_55 : decode cX1_note 55 = .ok (.getfield 21, 3) := by decide +kernel
theorem dX1_note_58 : decode cX1_note 58 = .ok (.iconst 1, 1) := by decide +kernel
theorem dX1_note_59 : decode cX1_note 59 = .ok (.iadd, 1) := by decide +kernel
theorem dX1_note_60 : decode cX1_note 60 = .ok (.putfield 21, 3) := by decide +kernel
theorem dX1_note_63 : decode cX1_note 63 = .ok (.return_, 1) := by decide +kernel
theorem dX1_dropOldest_0 : decode cX1_dropOldest 0 = .ok (.aload_n 0, 1) := by decide +kernel
theorem dX1_dropOldest_1 : decode cX1_dropOldest 1 = .ok (.bipush 7, 2) := by decide +kernel
theorem dX1_dropOldest_3 : decode cX1_dropOldest 3 = .ok (.putfield 21, 3) := by decide +kernel
theorem dX1_dropOldest_6 : decode cX1_dropOldest 6 = .ok (.aload_n 0, 1) := by decide +kernel
theorem dX1_dropOldest_7 : decode cX1_dropOldest 7 = .ok (.getfield 9, 3) := by decide +kernel
theorem dX1_dropOldest_10 : decode cX1_dropOldest 10 = .ok (.iconst 1, 1) := by decide +kernel
theorem dX1_dropOldest_11 : decode cX1_dropOldest 11 = .ok (.aload_n 0, 1) := by decide +kernel
theorem dX1_dropOldest_12 : decode cX1_dropOldest 12 = .ok (.getfield 9, 3) := by decide +kernel
theorem dX1_dropOldest_15 : decode cX1_dropOldest 15 = .ok (.iconst 0, 1) := by decide +kernel
theorem dX1_dropOldest_16 : decode cX1_dropOldest 16 = .ok (.aload_n 0, 1) := by decide +kernel
theorem dX1_dropOldest_17 : decode cX1_dropOldest 17 = .ok (.getfield 21, 3) := by decide +kernel
theorem dX1_dropOldest_20 : decode cX1_dropOldest 20 = .ok (.invokestatic 36, 3) := by decide +kernel
theorem dX1_dropOldest_23 : decode cX1_dropOldest 23 = .ok (.aload_n 0, 1) := by decide +kernel
theorem dX1_dropOldest_24 : decode cX1_dropOldest 24 = .ok (.getfield 15, 3) := by decide +kernel
theorem dX1_dropOldest_27 : decode cX1_dropOldest 27 = .ok (.iconst 1, 1) := by decide +kernel
theorem dX1_dropOldest_28 : decode cX1_dropOldest 28 = .ok (.aload_n 0, 1) := by decide +kernel
theorem dX1_dropOldest_29 : decode cX1_dropOldest 29 = .ok (.getfield 15, 3) := by decide +kernel
theorem dX1_dropOldest_32 : decode cX1_dropOldest 32 = .ok (.iconst 0, 1) := by decide +kernel
theorem dX1_dropOldest_33 : decode cX1_dropOldest 33 = .ok (.aload_n 0, 1) := by decide +kernel
theorem dX1_dropOldest_34 : decode cX1_dropOldest 34 = .ok (.getfield 21, 3) := by decide +kernel
theorem dX1_dropOldest_37 : decode cX1_dropOldest 37 = .ok (.invokestatic 36, 3) := by decide +kernel
theorem dX1_dropOldest_40 : decode cX1_dropOldest 40 = .ok (.aload_n 0, 1) := by decide +kernel
theorem dX1_dropOldest_41 : decode cX1_dropOldest 41 = .ok (.getfield 18, 3) := by decide +kernel
theorem dX1_dropOldest_44 : decode cX1_dropOldest 44 = .ok (.iconst 1, 1) := by decide +kernel
theorem dX1_dropOldest_45 : decode cX1_dropOldest 45 = .ok (.aload_n 0, 1) := by decide +kernel
theorem dX1_dropOldest_46 : decode cX1_dropOldest 46 = .ok (.getfield 18, 3) := by decide +kernel
theorem dX1_dropOldest_49 : decode cX1_dropOldest 49 = .ok (.iconst 0, 1) := by decide +kernel
theorem dX1_dropOldest_50 : decode cX1_dropOldest 50 = .ok (.aload_n 0, 1) := by decide +kernel
theorem dX1_dropOldest_51 : decode cX1_dropOldest 51 = .ok (.getfield 21, 3) := by decide +kernel
theorem dX1_dropOldest_54 : decode cX1_dropOldest 54 = .ok (.invokestatic 36, 3) := by decide +kernel
theorem dX1_dropOldest_57 : decode cX1_dropOldest 57 = .ok (.return_, 1) := by decide +kernel
theorem dX1_takeBack_0 : decode cX1_takeBack 0 = .ok (.aload_n 0, 1) := by decide +kernel
theorem dX1_takeBack_1 : decode cX1_takeBack 1 = .ok (.getfield 21, 3) := by decide +kernel
theorem dX1_takeBack_4 : decode cX1_takeBack 4 = .ok (.iconst 1, 1) := by decide +kernel
theorem dX1_takeBack_5 : decode cX1_takeBack 5 = .ok (.if_icmp .lt 21, 3) := by decide +kernel
theorem dX1_takeBack_8 : decode cX1_takeBack 8 = .ok (.aload_n 1, 1) := by decide +kernel
theorem dX1_takeBack_9 : decode cX1_takeBack 9 = .ok (.aload_n 0, 1) := by decide +kernel
theorem dX1_takeBack_10 : decode cX1_takeBack 10 = .ok (.getfield 9, 3) := by decide +kernel
theorem dX1_takeBack_13 : decode cX1_takeBack 13 = .ok (.aload_n 0, 1) := by decide +kernel
theorem dX1_takeBack_14 : decode cX1_takeBack 14 = .ok (.getfield 21, 3) := by decide +kernel
theorem dX1_takeBack_17 : decode cX1_takeBack 17 = .ok (.iconst 1, 1) := by decide +kernel
theorem dX1_takeBack_18 : decode cX1_takeBack 18 = .ok (.isub, 1) := by decide +kernel
theorem dX1_takeBack_19 : decode cX1_takeBack 19 = .ok (.iaload, 1) := by decide +kernel
theorem dX1_takeBack_20 : decode cX1_takeBack 20 = .ok (.invokevirtual 42, 3) := by decide +kernel
theorem dX1_takeBack_23 : decode cX1_takeBack 23 = .ok (.ifCond .ne 5, 3) := by decide +kernel
theorem dX1_takeBack_26 : decode cX1_takeBack 26 = .ok (.iconst 0, 1) := by decide +kernel
theorem dX1_takeBack_27 : decode cX1_takeBack 27 = .ok (.ireturn, 1) := by decide +kernel
theorem dX1_takeBack_28 : decode cX1_takeBack 28 = .ok (.aload_n 0, 1) := by decide +kernel
theorem dX1_takeBack_29 : decode cX1_takeBack 29 = .ok (.dup, 1) := by decide +kernel
theorem dX1_takeBack_30 : decode cX1_takeBack 30 = .ok (.getfield 21, 3) := by decide +kernel
theorem dX1_takeBack_33 : decode cX1_takeBack 33 = .ok (.iconst 1, 1) := by decide +kernel
theorem dX1_takeBack_34 : decode cX1_takeBack 34 = .ok (.isub, 1) := by decide +kernel
theorem dX1_takeBack_35 : decode cX1_takeBack 35 = .ok (.putfield 21, 3) := by decide +kernel
theorem dX1_takeBack_38 : decode cX1_takeBack 38 = .ok (.aload_n 1, 1) := by decide +kernel
theorem dX1_takeBack_39 : decode cX1_takeBack 39 = .ok (.getfield 28, 3) := by decide +kernel
theorem dX1_takeBack_42 : decode cX1_takeBack 42 = .ok (.aload_n 0, 1) := by decide +kernel
theorem dX1_takeBack_43 : decode cX1_takeBack 43 = .ok (.getfield 9, 3) := by decide +kernel
theorem dX1_takeBack_46 : decode cX1_takeBack 46 = .ok (.aload_n 0, 1) := by decide +kernel
theorem dX1_takeBack_47 : decode cX1_takeBack 47 = .ok (.getfield 21, 3) := by decide +kernel
theorem dX1_takeBack_50 : decode cX1_takeBack 50 = .ok (.iaload, 1) := by decide +kernel
theorem dX1_takeBack_51 : decode cX1_takeBack 51 = .ok (.aload_n 0, 1) := by decide +kernel
theorem dX1_takeBack_52 : decode cX1_takeBack 52 = .ok (.getfield 15, 3) := by decide +kernel
theorem dX1_takeBack_55 : decode cX1_takeBack 55 = .ok (.aload_n 0, 1) := by decide +kernel
theorem dX1_takeBack_56 : decode cX1_takeBack 56 = .ok (.getfield 21, 3) := by decide +kernel
theorem dX1_takeBack_59 : decode cX1_takeBack 59 = .ok (.iaload, 1) := by decide +kernel
theorem dX1_takeBack_60 : decode cX1_takeBack 60 = .ok (.iastore, 1) := by decide +kernel
theorem dX1_takeBack_61 : decode cX1_takeBack 61 = .ok (.aload_n 1, 1) := by decide +kernel
theorem dX1_takeBack_62 : decode cX1_takeBack 62 = .ok (.getfield 33, 3) := by decide +kernel
theorem dX1_takeBack_65 : decode cX1_takeBack 65 = .ok (.aload_n 0, 1) := by decide +kernel
theorem dX1_takeBack_66 : decode cX1_takeBack 66 = .ok (.getfield 9, 3) := by decide +kernel
theorem dX1_takeBack_69 : decode cX1_takeBack 69 = .ok (.aload_n 0, 1) := by decide +kernel
theorem dX1_takeBack_70 : decode cX1_takeBack 70 = .ok (.getfield 21, 3) := by decide +kernel
theorem dX1_takeBack_73 : decode cX1_takeBack 73 = .ok (.iaload, 1) := by decide +kernel
theorem dX1_takeBack_74 : decode cX1_takeBack 74 = .ok (.aload_n 0, 1) := by decide +kernel
theorem dX1_takeBack_75 : decode cX1_takeBack 75 = .ok (.getfield 18, 3) := by decide +kernel
theorem dX1_takeBack_78 : decode cX1_takeBack 78 = .ok (.aload_n 0, 1) := by decide +kernel
theorem dX1_takeBack_79 : decode cX1_takeBack 79 = .ok (.getfield 21, 3) := by decide +kernel
theorem dX1_takeBack_82 : decode cX1_takeBack 82 = .ok (.iaload, 1) := by decide +kernel
theorem dX1_takeBack_83 : decode cX1_takeBack 83 = .ok (.iastore, 1) := by decide +kernel
theorem dX1_takeBack_84 : decode cX1_takeBack 84 = .ok (.iconst 1, 1) := by decide +kernel
theorem dX1_takeBack_85 : decode cX1_takeBack 85 = .ok (.ireturn, 1) := by decide +kernel
theorem dX2_init_0 : decode cX2_init 0 = .ok (.aload_n 0, 1) := by decide +kernel
theorem dX2_init_1 : decode cX2_init 1 = .ok (.invokespecial 3, 3) := by decide +kernel
theorem dX2_init_4 : decode cX2_init 4 = .ok (.aload_n 0, 1) := by decide +kernel
theorem dX2_init_5 : decode cX2_init 5 = .ok (.sipush 256, 3) := by decide +kernel
theorem dX2_init_8 : decode cX2_init 8 = .ok (.newarray .int, 2) := by decide +kernel
theorem dX2_init_10 : decode cX2_init 10 = .ok (.putfield 9, 3) := by decide +kernel
theorem dX2_init_13 : decode cX2_init 13 = .ok (.return_, 1) := by decide +kernel
theorem dX2_weigh_0 : decode cX2_weigh 0 = .ok (.iconst 1, 1) := by decide +kernel
theorem dX2_weigh_1 : decode cX2_weigh 1 = .ok (.aload_n 1, 1) := by decide +kernel
theorem dX2_weigh_2 : decode cX2_weigh 2 = .ok (.getfield 15, 3) := by decide +kernel
theorem dX2_weigh_5 : decode cX2_weigh 5 = .ok (.ishl, 1) := by decide +kernel
theorem dX2_weigh_6 : decode cX2_weigh 6 = .ok (.iconst 1, 1) := by decide +kernel
theorem dX2_weigh_7 : decode cX2_weigh 7 = .ok (.isub, 1) := by decide +kernel
theorem dX2_weigh_8 : decode cX2_weigh 8 = .ok (.istore_n 2, 1) := by decide +kernel
theorem dX2_weigh_9 : decode cX2_weigh 9 = .ok (.aload_n 0, 1) := by decide +kernel
theorem dX2_weigh_10 : decode cX2_weigh 10 = .ok (.getfield 9, 3) := by decide +kernel
theorem dX2_weigh_13 : decode cX2_weigh 13 = .ok (.iload_n 2, 1) := by decide +kernel
theorem dX2_weigh_14 : decode cX2_weigh 14 = .ok (.iconst 0, 1) := by decide +kernel
theorem dX2_weigh_15 : decode cX2_weigh 15 = .ok (.iastore, 1) := by decide +kernel
theorem dX2_weigh_16 : decode cX2_weigh 16 = .ok (.iload_n 2, 1) := by decide +kernel
theorem dX2_weigh_17 : decode cX2_weigh 17 = .ok (.iconst 1, 1) := by decide +kernel
theorem dX2_weigh_18 : decode cX2_weigh 18 = .ok (.isub, 1) := by decide +kernel
theorem dX2_weigh_19 : decode cX2_weigh 19 = .ok (.istore_n 3, 1) := by decide +kernel
theorem dX2_weigh_20 : decode cX2_weigh 20 = .ok (.iload_n 3, 1) := by decide +kernel
theorem dX2_weigh_21 : decode cX2_weigh 21 = .ok (.ifCond .lt 83, 3) := by decide +kernel
theorem dX2_weigh_24 : decode cX2_weigh 24 = .ok (.iload_n 3, 1) := by decide +kernel
theorem dX2_weigh_25 : decode cX2_weigh 25 = .ok (.invokestatic 21, 3) := by decide +kernel
theorem dX2_weigh_28 : decode cX2_weigh 28 = .ok (.iconst 1, 1) := by decide +kernel
theorem dX2_weigh_29 : decode cX2_weigh 29 = .ok (.iadd, 1) := by decide +kernel
theorem dX2_weigh_30 : decode cX2_weigh 30 = .ok (.istore 4, 2) := by decide +kernel
theorem dX2_weigh_32 : decode cX2_weigh 32 = .ok (.ldc 27, 2) := by decide +kernel
theorem dX2_weigh_34 : decode cX2_weigh 34 = .ok (.istore 5, 2) := by decide +kernel
theorem dX2_weigh_36 : decode cX2_weigh 36 = .ok (.iconst 0, 1) := by decide +kernel
theorem dX2_weigh_37 : decode cX2_weigh 37 = .ok (.istore 6, 2) := by decide +kernel
theorem dX2_weigh_39 : decode cX2_weigh 39 = .ok (.iload 6, 2) := by decide +kernel
theorem dX2_weigh_41 : decode cX2_weigh 41 = .ok (.aload_n 1, 1) := by decide +kernel
theorem dX2_weigh_42 : decode cX2_weigh 42 = .ok (.getfield 15, 3) := by decide +kernel
theorem dX2_weigh_45 : decode cX2_weigh 45 = .ok (.if_icmp .ge 45, 3) := by decide +kernel
theorem dX2_weigh_48 : decode cX2_weigh 48 = .ok (.iload_n 3, 1) := by decide +kernel
theorem dX2_weigh_49 : decode cX2_weigh 49 = .ok (.iconst 1, 1) := by decide +kernel
theorem dX2_weigh_50 : decode cX2_weigh 50 = .ok (.iload 6, 2) := by decide +kernel
theorem dX2_weigh_52 : decode cX2_weigh 52 = .ok (.ishl, 1) := by decide +kernel
theorem dX2_weigh_53 : decode cX2_weigh 53 = .ok (.iand, 1) := by decide +kernel
theorem dX2_weigh_54 : decode cX2_weigh 54 = .ok (.ifCond .ne 30, 3) := by decide +kernel
theorem dX2_weigh_57 : decode cX2_weigh 57 = .ok (.iload 5, 2) := by decide +kernel
theorem dX2_weigh_59 : decode cX2_weigh 59 = .ok (.aload_n 1, 1) := by decide +kernel
theorem dX2_weigh_60 : decode cX2_weigh 60 = .ok (.iload 6, 2) := by decide +kernel
theorem dX2_weigh_62 : decode cX2_weigh 62 = .ok (.iload 4, 2) := by decide +kernel
theorem dX2_weigh_64 : decode cX2_weigh 64 = .ok (.invokestatic 28, 3) := by decide +kernel
theorem dX2_weigh_67 : decode cX2_weigh 67 = .ok (.aload_n 0, 1) := by decide +kernel
theorem dX2_weigh_68 : decode cX2_weigh 68 = .ok (.getfield 9, 3) := by decide +kernel
theorem dX2_weigh_71 : decode cX2_weigh 71 = .ok (.iload_n 3, 1) := by decide +kernel
theorem dX2_weigh_72 : decode cX2_weigh 72 = .ok (.iconst 1, 1) := by decide +kernel
theorem dX2_weigh_73 : decode cX2_weigh 73 = .ok (.iload 6, 2) := by decide +kernel
theorem dX2_weigh_75 : decode cX2_weigh 75 = .ok (.ishl, 1) := by decide +kernel
theorem dX2_weigh_76 : decode cX2_weigh 76 = .ok (.ior, 1) := by decide +kernel
theorem dX2_weigh_77 : decode cX2_weigh 77 = .ok (.iaload, 1) := by decide +kernel
theorem dX2_weigh_78 : decode cX2_weigh 78 = .ok (.iadd, 1) := by decide +kernel
theorem dX2_weigh_79 : decode cX2_weigh 79 = .ok (.invokestatic 32, 3) := by decide +kernel
theorem dX2_weigh_82 : decode cX2_weigh 82 = .ok (.istore 5, 2) := by decide +kernel
theorem dX2_weigh_84 : decode cX2_weigh 84 = .ok (.iinc 6 1, 3) := by decide +kernel
theorem dX2_weigh_87 : decode cX2_weigh 87 = .ok (.goto (-48), 3) := by decide +kernel
theorem dX2_weigh_90 : decode cX2_weigh 90 = .ok (.aload_n 0, 1) := by decide +kernel
theorem dX2_weigh_91 : decode cX2_weigh 91 = .ok (.getfield 9, 3) := by decide +kernel
theorem dX2_weigh_94 : decode cX2_weigh 94 = .ok (.iload_n 3, 1) := by decide +kernel
theorem dX2_weigh_95 : decode cX2_weigh 95 = .ok (.iload 5, 2) := by decide +kernel
theorem dX2_weigh_97 : decode cX2_weigh 97 = .ok (.iastore, 1) := by decide +kernel
theorem dX2_weigh_98 : decode cX2_weigh 98 = .ok (.iinc 3 (-1), 3) := by decide +kernel
theorem dX2_weigh_101 : decode cX2_weigh 101 = .ok (.goto (-81), 3) := by decide +kernel
theorem dX2_weigh_104 : decode cX2_weigh 104 = .ok (.return_, 1) := by decide +kernel
theorem dX2_holder_0 : decode cX2_holder 0 = .ok (.iconst 0, 1) := by decide +kernel
theorem dX2_holder_1 : decode cX2_holder 1 = .ok (.istore_n 3, 1) := by decide +kernel
theorem dX2_holder_2 : decode cX2_holder 2 = .ok (.bipush (-4), 2) := by decide +kernel
theorem dX2_holder_4 : decode cX2_holder 4 = .ok (.istore 4, 2) := by decide +kernel
theorem dX2_holder_6 : decode cX2_holder 6 = .ok (.iconst 1, 1) := by decide +kernel
theorem dX2_holder_7 : decode cX2_holder 7 = .ok (.istore 5, 2) := by decide +kernel
theorem dX2_holder_9 : decode cX2_holder 9 = .ok (.iload 5, 2) := by decide +kernel
theorem dX2_holder_11 : decode cX2_holder 11 = .ok (.iload_n 2, 1) := by decide +kernel
theorem dX2_holder_12 : decode cX2_holder 12 = .ok (.if_icmp .gt 36, 3) := by decide +kernel
theorem dX2_holder_15 : decode cX2_holder 15 = .ok (.aload_n 0, 1) := by decide +kernel
theorem dX2_holder_16 : decode cX2_holder 16 = .ok (.aload_n 1, 1) := by decide +kernel
theorem dX2_holder_17 : decode cX2_holder 17 = .ok (.iload_n 3, 1) := by decide +kernel
theorem dX2_holder_18 : decode cX2_holder 18 = .ok (.iload 5, 2) := by decide +kernel
theorem dX2_holder_20 : decode cX2_holder 20 = .ok (.invokevirtual 38, 3) := by decide +kernel
theorem dX2_holder_23 : decode cX2_holder 23 = .ok (.istore 4, 2) := by decide +kernel
theorem dX2_holder_25 : decode cX2_holder 25 = .ok (.iload 4, 2) := by decide +kernel
theorem dX2_holder_27 : decode cX2_holder 27 = .ok (.bipush (-4), 2) := by decide +kernel
theorem dX2_holder_29 : decode cX2_holder 29 = .ok (.if_icmp .ne 6, 3) := by decide +kernel
theorem dX2_holder_32 : decode cX2_holder 32 = .ok (.bipush (-4), 2) := by decide +kernel
theorem dX2_holder_34 : decode cX2_holder 34 = .ok (.ireturn, 1) := by decide +kernel
theorem dX2_holder_35 : decode cX2_holder 35 = .ok (.iload_n 3, 1) := by decide +kernel
theorem dX2_holder_36 : decode cX2_holder 36 = .ok (.iconst 1, 1) := by decide +kernel
theorem dX2_holder_37 : decode cX2_holder 37 = .ok (.iload 4, 2) := by decide +kernel
theorem dX2_holder_39 : decode cX2_holder 39 = .ok (.ishl, 1) := by decide +kernel
theorem dX2_holder_40 : decode cX2_holder 40 = .ok (.ior, 1) := by decide +kernel
theorem dX2_holder_41 : decode cX2_holder 41 = .ok (.istore_n 3, 1) := by decide +kernel
theorem dX2_holder_42 : decode cX2_holder 42 = .ok (.iinc 5 1, 3) := by decide +kernel
theorem dX2_holder_45 : decode cX2_holder 45 = .ok (.goto (-36), 3) := by decide +kernel
theorem dX2_holder_48 : decode cX2_holder 48 = .ok (.iload 4, 2) := by decide +kernel
theorem dX2_holder_50 : decode cX2_holder 50 = .ok (.ireturn, 1) := by decide +kernel
theorem dX2_lowestFitting_0 : decode cX2_lowestFitting 0 = .ok (.iconst 0, 1) := by decide +kernel
theorem dX2_lowestFitting_1 : decode cX2_lowestFitting 1 = .ok (.istore 4, 2) := by decide +kernel
theorem dX2_lowestFitting_3 : decode cX2_lowestFitting 3 = .ok (.iload 4, 2) := by decide +kernel
theorem dX2_lowestFitting_5 : decode cX2_lowestFitting 5 = .ok (.aload_n 1, 1) := by decide +kernel
theorem dX2_lowestFitting_6 : decode cX2_lowestFitting 6 = .ok (.getfield 15, 3) := by decide +kernel
theorem dX2_lowestFitting_9 : decode cX2_lowestFitting 9 = .ok (.if_icmp .ge 49, 3) := by decide +kernel
theorem dX2_lowestFitting_12 : decode cX2_lowestFitting 12 = .ok (.iload_n 2, 1) := by decide +kernel
theorem dX2_lowestFitting_13 : decode cX2_lowestFitting 13 = .ok (.iconst 1, 1) := by decide +kernel
theorem dX2_lowestFitting_14 : decode cX2_lowestFitting 14 = .ok (.iload 4, 2) := by decide +kernel
theorem dX2_lowestFitting_16 : decode cX2_lowestFitting 16 = .ok (.ishl, 1) := by decide +kernel
theorem dX2_lowestFitting_17 : decode cX2_lowestFitting 17 = .ok (.iand, 1) := by decide +kernel
theorem dX2_lowestFitting_18 : decode cX2_lowestFitting 18 = .ok (.ifCond .ne 34, 3) := by decide +kernel
theorem dX2_lowestFitting_21 : decode cX2_lowestFitting 21 = .ok (.aload_n 1, 1) := by decide +kernel
theorem dX2_lowestFitting_22 : decode cX2_lowestFitting 22 = .ok (.iload 4, 2) := by decide +kernel
theorem dX2_lowestFitting_24 : decode cX2_lowestFitting 24 = .ok (.iload_n 3, 1) := by decide +kernel
theorem dX2_lowestFitting_25 : decode cX2_lowestFitting 25 = .ok (.invokestatic 28, 3) := by decide +kernel
theorem dX2_lowestFitting_28 : decode cX2_lowestFitting 28 = .ok (.aload_n 0, 1) := by decide +kernel
theorem dX2_lowestFitting_29 : decode cX2_lowestFitting 29 = .ok (.getfield 9, 3) := by decide +kernel
theorem dX2_lowestFitting_32 : decode cX2_lowestFitting 32 = .ok (.iload_n 2, 1) := by decide +kernel
theorem dX2_lowestFitting_33 : decode cX2_lowestFitting 33 = .ok (.iconst 1, 1) := by decide +kernel
theorem dX2_lowestFitting_34 : decode cX2_lowestFitting 34 = .ok (.iload 4, 2) := by decide +kernel
theorem dX2_lowestFitting_36 : decode cX2_lowestFitting 36 = .ok (.ishl, 1) := by decide +kernel
theorem dX2_lowestFitting_37 : decode cX2_lowestFitting 37 = .ok (.ior, 1) := by decide +kernel
theorem dX2_lowestFitting_38 : decode cX2_lowestFitting 38 = .ok (.iaload, 1) := by decide +kernel
theorem dX2_lowestFitting_39 : decode cX2_lowestFitting 39 = .ok (.iadd, 1) := by decide +kernel
theorem dX2_lowestFitting_40 : decode cX2_lowestFitting 40 = .ok (.aload_n 0, 1) := by decide +kernel
theorem dX2_lowestFitting_41 : decode cX2_lowestFitting 41 = .ok (.getfield 9, 3) := by decide +kernel
theorem dX2_lowestFitting_44 : decode cX2_lowestFitting 44 = .ok (.iload_n 2, 1) := by decide +kernel
theorem dX2_lowestFitting_45 : decode cX2_lowestFitting 45 = .ok (.iaload, 1) := by decide +kernel
theorem dX2_lowestFitting_46 : decode cX2_lowestFitting 46 = .ok (.if_icmp .ne 6, 3) := by decide +kernel
theorem dX2_lowestFitting_49 : decode cX2_lowestFitting 49 = .ok (.iload 4, 2) := by decide +kernel
theorem dX2_lowestFitting_51 : decode cX2_lowestFitting 51 = .ok (.ireturn, 1) := by decide +kernel
theorem dX2_lowestFitting_52 : decode cX2_lowestFitting 52 = .ok (.iinc 4 1, 3) := by decide +kernel
theorem dX2_lowestFitting_55 : decode cX2_lowestFitting 55 = .ok (.goto (-52), 3) := by decide +kernel
theorem dX2_lowestFitting_58 : decode cX2_lowestFitting 58 = .ok (.bipush (-4), 2) := by decide +kernel
theorem dX2_lowestFitting_60 : decode cX2_lowestFitting 60 = .ok (.ireturn, 1) := by decide +kernel
theorem dX2_off_0 : decode cX2_off 0 = .ok (.aload_n 0, 1) := by decide +kernel
theorem dX2_off_1 : decode cX2_off 1 = .ok (.getfield 41, 3) := by decide +kernel
theorem dX2_off_4 : decode cX2_off 4 = .ok (.iload_n 1, 1) := by decide +kernel
theorem dX2_off_5 : decode cX2_off 5 = .ok (.iaload, 1) := by decide +kernel
theorem dX2_off_6 : decode cX2_off 6 = .ok (.bipush (-4), 2) := by decide +kernel
theorem dX2_off_8 : decode cX2_off 8 = .ok (.if_icmp .ne 7, 3) := by decide +kernel
theorem dX2_off_11 : decode cX2_off 11 = .ok (.iconst 0, 1) := by decide +kernel
theorem dX2_off_12 : decode cX2_off 12 = .ok (.goto 14, 3) := by decide +kernel
theorem dX2_off_15 : decode cX2_off 15 = .ok (.aload_n 0, 1) := by decide +kernel
theorem dX2_off_16 : decode cX2_off 16 = .ok (.getfield 41, 3) := by decide +kernel
theorem dX2_off_19 : decode cX2_off 19 = .ok (.iload_n 1, 1) := by decide +kernel
theorem dX2_off_20 : decode cX2_off 20 = .ok (.iaload, 1) := by decide +kernel
theorem dX2_off_21 : decode cX2_off 21 = .ok (.iload_n 2, 1) := by decide +kernel
theorem dX2_off_22 : decode cX2_off 22 = .ok (.isub, 1) := by decide +kernel
theorem dX2_off_23 : decode cX2_off 23 = .ok (.invokestatic 44, 3) := by decide +kernel
theorem dX2_off_26 : decode cX2_off 26 = .ok (.ireturn, 1) := by decide +kernel
theorem dX3_init_0 : decode cX3_init 0 = .ok (.aload_n 0, 1) := by decide +kernel
theorem dX3_init_1 : decode cX3_init 1 = .ok (.invokespecial 3, 3) := by decide +kernel
theorem dX3_init_4 : decode cX3_init 4 = .ok (.aload_n 0, 1) := by decide +kernel
theorem dX3_init_5 : decode cX3_init 5 = .ok (.bipush 16, 2) := by decide +kernel
theorem dX3_init_7 : decode cX3_init 7 = .ok (.newarray .int, 2) := by decide +kernel
theorem dX3_init_9 : decode cX3_init 9 = .ok (.putfield 9, 3) := by decide +kernel
theorem dX3_init_12 : decode cX3_init 12 = .ok (.aload_n 0, 1) := by decide +kernel
theorem dX3_init_13 : decode cX3_init 13 = .ok (.bipush 16, 2) := by decide +kernel
theorem dX3_init_15 : decode cX3_init 15 = .ok (.newarray .int, 2) := by decide +kernel
theorem dX3_init_17 : decode cX3_init 17 = .ok (.putfield 15, 3) := by decide +kernel
theorem dX3_init_20 : decode cX3_init 20 = .ok (.aload_n 0, 1) := by decide +kernel
theorem dX3_init_21 : decode cX3_init 21 = .ok (.iconst 0, 1) := by decide +kernel
theorem dX3_init_22 : decode cX3_init 22 = .ok (.putfield 18, 3) := by decide +kernel
theorem dX3_init_25 : decode cX3_init 25 = .ok (.return_, 1) := by decide +kernel
theorem dX3_clear_0 : decode cX3_clear 0 = .ok (.aload_n 0, 1) := by decide +kernel
theorem dX3_clear_1 : decode cX3_clear 1 = .ok (.iconst 0, 1) := by decide +kernel
theorem dX3_clear_2 : decode cX3_clear 2 = .ok (.putfield 18, 3) := by decide +kernel
theorem dX3_clear_5 : decode cX3_clear 5 = .ok (.return_, 1) := by decide +kernel
theorem dX3_push_0 : decode cX3_push 0 = .ok (.aload_n 0, 1) := by decide +kernel
theorem dX3_push_1 : decode cX3_push 1 = .ok (.getfield 18, 3) := by decide +kernel
theorem dX3_push_4 : decode cX3_push 4 = .ok (.iconst 2, 1) := by decide +kernel
theorem dX3_push_5 : decode cX3_push 5 = .ok (.if_icmp .lt 5, 3) := by decide +kernel
theorem dX3_push_8 : decode cX3_push 8 = .ok (.iconst 0, 1) := by decide +kernel
theorem dX3_push_9 : decode cX3_push 9 = .ok (.ireturn, 1) := by decide +kernel
theorem dX3_push_10 : decode cX3_push 10 = .ok (.aload_n 1, 1) := by decide +kernel
theorem dX3_push_11 : decode cX3_push 11 = .ok (.getfield 22, 3) := by decide +kernel
theorem dX3_push_14 : decode cX3_push 14 = .ok (.iconst 0, 1) := by decide +kernel
theorem dX3_push_15 : decode cX3_push 15 = .ok (.aload_n 0, 1) := by decide +kernel
theorem dX3_push_16 : decode cX3_push 16 = .ok (.getfield 9, 3) := by decide +kernel
theorem dX3_push_19 : decode cX3_push 19 = .ok (.aload_n 0, 1) := by decide +kernel
theorem dX3_push_20 : decode cX3_push 20 = .ok (.getfield 18, 3) := by decide +kernel
theorem dX3_push_23 : decode cX3_push 23 = .ok (.bipush 8, 2) := by decide +kernel
theorem dX3_push_25 : decode cX3_push 25 = .ok (.imul, 1) := by decide +kernel
theorem dX3_push_26 : decode cX3_push 26 = .ok (.bipush 8, 2) := by decide +kernel
theorem dX3_push_28 : decode cX3_push 28 = .ok (.invokestatic 25, 3) := by decide +kernel
theorem dX3_push_31 : decode cX3_push 31 = .ok (.aload_n 1, 1) := by decide +kernel
theorem dX3_push_32 : decode cX3_push 32 = .ok (.getfield 31, 3) := by decide +kernel
theorem dX3_push_35 : decode cX3_push 35 = .ok (.iconst 0, 1) := by decide +kernel
theorem dX3_push_36 : decode cX3_push 36 = .ok (.aload_n 0, 1) := by decide +kernel
theorem dX3_push_37 : decode cX3_push 37 = .ok (.getfield 15, 3) := by decide +kernel
theorem dX3_push_40 : decode cX3_push 40 = .ok (.aload_n 0, 1) := by decide +kernel
theorem dX3_push_41 : decode cX3_push 41 = .ok (.getfield 18, 3) := by decide +kernel
theorem dX3_push_44 : decode cX3_push 44 = .ok (.bipush 8, 2) := by decide +kernel
theorem dX3_push_46 : decode cX3_push 46 = .ok (.imul, 1) := by decide +kernel
theorem dX3_push_47 : decode cX3_push 47 = .ok (.bipush 8, 2) := by decide +kernel
theorem dX3_push_49 : decode cX3_push 49 = .ok (.invokestatic 25, 3) := by decide +kernel
theorem dX3_push_52 : decode cX3_push 52 = .ok (.aload_n 0, 1) := by decide +kernel
theorem dX3_push_53 : decode cX3_push 53 = .ok (.dup, 1) := by decide +kernel
theorem dX3_push_54 : decode cX3_push 54 = .ok (.getfield 18, 3) := by decide +kernel
theorem dX3_push_57 : decode cX3_push 57 = .ok (.iconst 1, 1) := by decide +kernel
theorem dX3_push_58 : decode cX3_push 58 = .ok (.iadd, 1) := by decide +kernel
theorem dX3_push_59 : decode cX3_push 59 = .ok (.putfield 18, 3) := by decide +kernel
theorem dX3_push_62 : decode cX3_push 62 = .ok (.iconst 1, 1) := by decide +kernel
theorem dX3_push_63 : decode cX3_push 63 = .ok (.ireturn, 1) := by decide +kernel
theorem dX3_pop_0 : decode cX3_pop 0 = .ok (.aload_n 0, 1) := by decide +kernel
theorem dX3_pop_1 : decode cX3_pop 1 = .ok (.getfield 18, 3) := by decide +kernel
theorem dX3_pop_4 : decode cX3_pop 4 = .ok (.iconst 1, 1) := by decide +kernel
theorem dX3_pop_5 : decode cX3_pop 5 = .ok (.if_icmp .ge 5, 3) := by decide +kernel
theorem dX3_pop_8 : decode cX3_pop 8 = .ok (.iconst 0, 1) := by decide +kernel
theorem dX3_pop_9 : decode cX3_pop 9 = .ok (.ireturn, 1) := by decide +kernel
theorem dX3_pop_10 : decode cX3_pop 10 = .ok (.aload_n 0, 1) := by decide +kernel
theorem dX3_pop_11 : decode cX3_pop 11 = .ok (.dup, 1) := by decide +kernel
theorem dX3_pop_12 : decode cX3_pop 12 = .ok (.getfield 18, 3) := by decide +kernel
theorem dX3_pop_15 : decode cX3_pop 15 = .ok (.iconst 1, 1) := by decide +kernel
theorem dX3_pop_16 : decode cX3_pop 16 = .ok (.isub, 1) := by decide +kernel
theorem dX3_pop_17 : decode cX3_pop 17 = .ok (.putfield 18, 3) := by decide +kernel
theorem dX3_pop_20 : decode cX3_pop 20 = .ok (.aload_n 0, 1) := by decide +kernel
theorem dX3_pop_21 : decode cX3_pop 21 = .ok (.getfield 9, 3) := by decide +kernel
theorem dX3_pop_24 : decode cX3_pop 24 = .ok (.aload_n 0, 1) := by decide +kernel
theorem dX3_pop_25 : decode cX3_pop 25 = .ok (.getfield 18, 3) := by decide +kernel
theorem dX3_pop_28 : decode cX3_pop 28 = .ok (.bipush 8, 2) := by decide +kernel
theorem dX3_pop_30 : decode cX3_pop 30 = .ok (.imul, 1) := by decide +kernel
theorem dX3_pop_31 : decode cX3_pop 31 = .ok (.aload_n 1, 1) := by decide +kernel
theorem dX3_pop_32 : decode cX3_pop 32 = .ok (.getfield 22, 3) := by decide +kernel
theorem dX3_pop_35 : decode cX3_pop 35 = .ok (.iconst 0, 1) := by decide +kernel
theorem dX3_pop_36 : decode cX3_pop 36 = .ok (.bipush 8, 2) := by decide +kernel
theorem dX3_pop_38 : decode cX3_pop 38 = .ok (.invokestatic 25, 3) := by decide +kernel
theorem dX3_pop_41 : decode cX3_pop 41 = .ok (.aload_n 0, 1) := by decide +kernel
theorem dX3_pop_42 : decode cX3_pop 42 = .ok (.getfield 15, 3) := by decide +kernel
theorem dX3_pop_45 : decode cX3_pop 45 = .ok (.aload_n 0, 1) := by decide +kernel
theorem dX3_pop_46 : decode cX3_pop 46 = .ok (.getfield 18, 3) := by decide +kernel
theorem dX3_pop_49 : decode cX3_pop 49 = .ok (.bipush 8, 2) := by decide +kernel
theorem dX3_pop_51 : decode cX3_pop 51 = .ok (.imul, 1) := by decide +kernel
theorem dX3_pop_52 : decode cX3_pop 52 = .ok (.aload_n 1, 1) := by decide +kernel
theorem dX3_pop_53 : decode cX3_pop 53 = .ok (.getfield 31, 3) := by decide +kernel
theorem dX3_pop_56 : decode cX3_pop 56 = .ok (.iconst 0, 1) := by decide +kernel
theorem dX3_pop_57 : decode cX3_pop 57 = .ok (.bipush 8, 2) := by decide +kernel
theorem dX3_pop_59 : decode cX3_pop 59 = .ok (.invokestatic 25, 3) := by decide +kernel
theorem dX3_pop_62 : decode cX3_pop 62 = .ok (.iconst 1, 1) := by decide +kernel
theorem dX3_pop_63 : decode cX3_pop 63 = .ok (.ireturn, 1) := by decide +kernel
theorem dX4_init_0 : decode cX4_init 0 = .ok (.aload_n 0, 1) := by decide +kernel
theorem dX4_init_1 : decode cX4_init 1 = .ok (.invokespecial 3, 3) := by decide +kernel
theorem dX4_init_4 : decode cX4_init 4 = .ok (.aload_n 0, 1) := by decide +kernel
theorem dX4_init_5 : decode cX4_init 5 = .ok (.bipush 8, 2) := by decide +kernel
theorem dX4_init_7 : decode cX4_init 7 = .ok (.newarray .int, 2) := by decide +kernel
theorem dX4_init_9 : decode cX4_init 9 = .ok (.putfield 9, 3) := by decide +kernel
theorem dX4_init_12 : decode cX4_init 12 = .ok (.aload_n 0, 1) := by decide +kernel
theorem dX4_init_13 : decode cX4_init 13 = .ok (.bipush 8, 2) := by decide +kernel
theorem dX4_init_15 : decode cX4_init 15 = .ok (.newarray .int, 2) := by decide +kernel
theorem dX4_init_17 : decode cX4_init 17 = .ok (.putfield 15, 3) := by decide +kernel
theorem dX4_init_20 : decode cX4_init 20 = .ok (.aload_n 0, 1) := by decide +kernel
theorem dX4_init_21 : decode cX4_init 21 = .ok (.bipush 8, 2) := by decide +kernel
theorem dX4_init_23 : decode cX4_init 23 = .ok (.newarray .int, 2) := by decide +kernel
theorem dX4_init_25 : decode cX4_init 25 = .ok (.putfield 18, 3) := by decide +kernel
theorem dX4_init_28 : decode cX4_init 28 = .ok (.aload_n 0, 1) := by decide +kernel
theorem dX4_init_29 : decode cX4_init 29 = .ok (.bipush 8, 2) := by decide +kernel
theorem dX4_init_31 : decode cX4_init 31 = .ok (.newarray .int, 2) := by decide +kernel
theorem dX4_init_33 : decode cX4_init 33 = .ok (.putfield 21, 3) := by decide +kernel
theorem dX4_init_36 : decode cX4_init 36 = .ok (.aload_n 0, 1) := by decide +kernel
theorem dX4_init_37 : decode cX4_init 37 = .ok (.bipush 8, 2) := by decide +kernel
theorem dX4_init_39 : decode cX4_init 39 = .ok (.newarray .int, 2) := by decide +kernel
theorem dX4_init_41 : decode cX4_init 41 = .ok (.putfield 24, 3) := by decide +kernel
theorem dX4_init_44 : decode cX4_init 44 = .ok (.aload_n 0, 1) := by decide +kernel
theorem dX4_init_45 : decode cX4_init 45 = .ok (.sipush 201, 3) := by decide +kernel
theorem dX4_init_48 : decode cX4_init 48 = .ok (.newarray .int, 2) := by decide +kernel
theorem dX4_init_50 : decode cX4_init 50 = .ok (.putfield 27, 3) := by decide +kernel
theorem dX4_init_53 : decode cX4_init 53 = .ok (.aload_n 0, 1) := by decide +kernel
theorem dX4_init_54 : decode cX4_init 54 = .ok (.aload_n 1, 1) := by decide +kernel
theorem dX4_init_55 : decode cX4_init 55 = .ok (.putfield 30, 3) := by decide +kernel
theorem dX4_init_58 : decode cX4_init 58 = .ok (.aload_n 0, 1) := by decide +kernel
theorem dX4_init_59 : decode cX4_init 59 = .ok (.aload_n 1, 1) := by decide +kernel
theorem dX4_init_60 : decode cX4_init 60 = .ok (.getfield 34, 3) := by decide +kernel
theorem dX4_init_63 : decode cX4_init 63 = .ok (.putfield 39, 3) := by decide +kernel
theorem dX4_init_66 : decode cX4_init 66 = .ok (.aload_n 0, 1) := by decide +kernel
theorem dX4_init_67 : decode cX4_init 67 = .ok (.aload_n 1, 1) := by decide +kernel
theorem dX4_init_68 : decode cX4_init 68 = .ok (.getfield 40, 3) := by decide +kernel
theorem dX4_init_71 : decode cX4_init 71 = .ok (.putfield 44, 3) := by decide +kernel
theorem dX4_init_74 : decode cX4_init 74 = .ok (.return_, 1) := by decide +kernel
theorem dX4_prepare_0 : decode cX4_prepare 0 = .ok (.aload_n 0, 1) := by decide +kernel
theorem dX4_prepare_1 : decode cX4_prepare 1 = .ok (.aload_n 1, 1) := by decide +kernel
theorem dX4_prepare_2 : decode cX4_prepare 2 = .ok (.putfield 30, 3) := by decide +kernel
theorem dX4_prepare_5 : decode cX4_prepare 5 = .ok (.aload_n 0, 1) := by decide +kernel
theorem dX4_prepare_6 : decode cX4_prepare 6 = .ok (.aload_n 1, 1) := by decide +kernel
theorem dX4_prepare_7 : decode cX4_prepare 7 = .ok (.getfield 34, 3) := by decide +kernel
theorem dX4_prepare_10 : decode cX4_prepare 10 = .ok (.putfield 39, 3) := by decide +kernel
theorem dX4_prepare_13 : decode cX4_prepare 13 = .ok (.aload_n 0, 1) := by decide +kernel
theorem dX4_prepare_14 : decode cX4_prepare 14 = .ok (.aload_n 1, 1) := by decide +kernel
theorem dX4_prepare_15 : decode cX4_prepare 15 = .ok (.getfield 40, 3) := by decide +kernel
theorem dX4_prepare_18 : decode cX4_prepare 18 = .ok (.putfield 44, 3) := by decide +kernel
theorem dX4_prepare_21 : decode cX4_prepare 21 = .ok (.aload_n 0, 1) := by decide +kernel
theorem dX4_prepare_22 : decode cX4_prepare 22 = .ok (.iconst 0, 1) := by decide +kernel
theorem dX4_prepare_23 : decode cX4_prepare 23 = .ok (.putfield 45, 3) := by decide +kernel
theorem dX4_prepare_26 : decode cX4_prepare 26 = .ok (.aload_n 1, 1) := by decide +kernel
theorem dX4_prepare_27 : decode cX4_prepare 27 = .ok (.getfield 48, 3) := by decide +kernel
theorem dX4_prepare_30 : decode cX4_prepare 30 = .ok (.iconst 0, 1) := by decide +kernel
theorem dX4_prepare_31 : decode cX4_prepare 31 = .ok (.aload_n 0, 1) := by decide +kernel
theorem dX4_prepare_32 : decode cX4_prepare 32 = .ok (.getfield 9, 3) := by decide +kernel
theorem dX4_prepare_35 : decode cX4_prepare 35 = .ok (.iconst 0, 1) := by decide +kernel
theorem dX4_prepare_36 : decode cX4_prepare 36 = .ok (.bipush 8, 2) := by decide +kernel
theorem dX4_prepare_38 : decode cX4_prepare 38 = .ok (.invokestatic 49, 3) := by decide +kernel
theorem dX4_prepare_41 : decode cX4_prepare 41 = .ok (.aload_n 1, 1) := by decide +kernel
theorem dX4_prepare_42 : decode cX4_prepare 42 = .ok (.getfield 55, 3) := by decide +kernel
theorem dX4_prepare_45 : decode cX4_prepare 45 = .ok (.iconst 0, 1) := by decide +kernel
theorem dX4_prepare_46 : decode cX4_prepare 46 = .ok (.aload_n 0, 1) := by decide +kernel
theorem dX4_prepare_47 : decode cX4_prepare 47 = .ok (.getfield 15, 3) := by decide +kernel
theorem dX4_prepare_50 : decode cX4_prepare 50 = .ok (.iconst 0, 1) := by decide +kernel
theorem dX4_prepare_51 : decode cX4_prepare 51 = .ok (.bipush 8, 2) := by decide +kernel
theorem dX4_prepare_53 : decode cX4_prepare 53 = .ok (.invokestatic 49, 3) := by decide +kernel
theorem dX4_prepare_56 : decode cX4_prepare 56 = .ok (.return_, 1) := by decide +kernel
theorem dX4_unseatAll_0 : decode cX4_unseatAll 0 = .ok (.iconst 0, 1) := by decide +kernel
theorem dX4_unseatAll_1 : decode cX4_unseatAll 1 = .ok (.istore_n 1, 1) := by decide +kernel
theorem dX4_unseatAll_2 : decode cX4_unseatAll 2 = .ok (.iload_n 1, 1) := by decide +kernel
theorem dX4_unseatAll_3 : decode cX4_unseatAll 3 = .ok (.bipush 8, 2) := by decide +kernel
theorem dX4_unseatAll_5 : decode cX4_unseatAll 5 = .ok (.if_icmp .ge 17, 3) := by decide +kernel
theorem dX4_unseatAll_8 : decode cX4_unseatAll 8 = .ok (.aload_n 0, 1) := by decide +kernel
theorem dX4_unseatAll_9 : decode cX4_unseatAll 9 = .ok (.getfield 15, 3) := by decide +kernel
theorem dX4_unseatAll_12 : decode cX4_unseatAll 12 = .ok (.iload_n 1, 1) := by decide +kernel
theorem dX4_unseatAll_13 : decode cX4_unseatAll 13 = .ok (.bipush (-4), 2) := by decide +kernel
theorem dX4_unseatAll_15 : decode cX4_unseatAll 15 = .ok (.iastore, 1) := by decide +kernel
theorem dX4_unseatAll_16 : decode cX4_unseatAll 16 = .ok (.iinc 1 1, 3) := by decide +kernel
theorem dX4_unseatAll_19 : decode cX4_unseatAll 19 = .ok (.goto (-17), 3) := by decide +kernel
theorem dX4_unseatAll_22 : decode cX4_unseatAll 22 = .ok (.return_, 1) := by decide +kernel
theorem dX4_drawFlow_0 : decode cX4_drawFlow 0 = .ok (.iconst 1, 1) := by decide +kernel
theorem dX4_drawFlow_1 : decode cX4_drawFlow 1 = .ok (.istore_n 2, 1) := by decide +kernel
theorem dX4_drawFlow_2 : decode cX4_drawFlow 2 = .ok (.iload_n 2, 1) := by decide +kernel
theorem dX4_drawFlow_3 : decode cX4_drawFlow 3 = .ok (.sipush 200, 3) := by decide +kernel
theorem dX4_drawFlow_6 : decode cX4_drawFlow 6 = .ok (.if_icmp .gt 43, 3) := by decide +kernel
theorem dX4_drawFlow_9 : decode cX4_drawFlow 9 = .ok (.ldc2_w 56, 3) := by decide +kernel
theorem dX4_drawFlow_12 : decode cX4_drawFlow 12 = .ok (.iload_n 1, 1) := by decide +kernel
theorem dX4_drawFlow_13 : decode cX4_drawFlow 13 = .ok (.i2l, 1) := by decide +kernel
theorem dX4_drawFlow_14 : decode cX4_drawFlow 14 = .ok (.lmul, 1) := by decide +kernel
theorem dX4_drawFlow_15 : decode cX4_drawFlow 15 = .ok (.ldc2_w 58, 3) := by decide +kernel
theorem dX4_drawFlow_18 : decode cX4_drawFlow 18 = .ok (.iload_n 2, 1) := by decide +kernel
theorem dX4_drawFlow_19 : decode cX4_drawFlow 19 = .ok (.i2l, 1) := by decide +kernel
theorem dX4_drawFlow_20 : decode cX4_drawFlow 20 = .ok (.lmul, 1) := by decide +kernel
theorem dX4_drawFlow_21 : decode cX4_drawFlow 21 = .ok (.ladd, 1) := by decide +kernel
theorem dX4_drawFlow_22 : decode cX4_drawFlow 22 = .ok (.lconst 1, 1) := by decide +kernel
theorem dX4_drawFlow_23 : decode cX4_drawFlow 23 = .ok (.ladd, 1) := by decide +kernel
theorem dX4_drawFlow_24 : decode cX4_drawFlow 24 = .ok (.lstore_n 3, 1) := by decide +kernel
theorem dX4_drawFlow_25 : decode cX4_drawFlow 25 = .ok (.aload_n 0, 1) := by decide +kernel
theorem dX4_drawFlow_26 : decode cX4_drawFlow 26 = .ok (.getfield 27, 3) := by decide +kernel
theorem dX4_drawFlow_29 : decode cX4_drawFlow 29 = .ok (.iload_n 2, 1) := by decide +kernel
theorem dX4_drawFlow_30 : decode cX4_drawFlow 30 = .ok (.lload_n 3, 1) := by decide +kernel
theorem dX4_drawFlow_31 : decode cX4_drawFlow 31 = .ok (.lload_n 3, 1) := by decide +kernel
theorem dX4_drawFlow_32 : decode cX4_drawFlow 32 = .ok (.lmul, 1) := by decide +kernel
theorem dX4_drawFlow_33 : decode cX4_drawFlow 33 = .ok (.ldc2_w 60, 3) := by decide +kernel
theorem dX4_drawFlow_36 : decode cX4_drawFlow 36 = .ok (.lrem, 1) := by decide +kernel
theorem dX4_drawFlow_37 : decode cX4_drawFlow 37 = .ok (.ldc2_w 62, 3) := by decide +kernel
theorem dX4_drawFlow_40 : decode cX4_drawFlow 40 = .ok (.lrem, 1) := by decide +kernel
theorem dX4_drawFlow_41 : decode cX4_drawFlow 41 = .ok (.l2i, 1) := by decide +kernel
theorem dX4_drawFlow_42 : decode cX4_drawFlow 42 = .ok (.iastore, 1) := by decide +kernel
theorem dX4_drawFlow_43 : decode cX4_drawFlow 43 = .ok (.iinc 2 1, 3) := by decide +kernel
theorem dX4_drawFlow_46 : decode cX4_drawFlow 46 = .ok (.goto (-44), 3) := by decide +kernel
theorem dX4_drawFlow_49 : decode cX4_drawFlow 49 = .ok (.aload_n 0, 1) := by decide +kernel
theorem dX4_drawFlow_50 : decode cX4_drawFlow 50 = .ok (.aload_n 0, 1) := by decide +kernel
theorem dX4_drawFlow_51 : decode cX4_drawFlow 51 = .ok (.getfield 27, 3) := by decide +kernel
theorem dX4_drawFlow_54 : decode cX4_drawFlow 54 = .ok (.putfield 39, 3) := by decide +kernel
theorem dX4_drawFlow_57 : decode cX4_drawFlow 57 = .ok (.return_, 1) := by decide +kernel
theorem dX4_run_0 : decode cX4_run 0 = .ok (.iconst 0, 1) := by decide +kernel
theorem dX4_run_1 : decode cX4_run 1 = .ok (.istore_n 1, 1) := by decide +kernel
theorem dX4_run_2 : decode cX4_run 2 = .ok (.iload_n 1, 1) := by decide +kernel
theorem dX4_run_3 : decode cX4_run 3 = .ok (.aload_n 0, 1) := by decide +kernel
theorem dX4_run_4 : decode cX4_run 4 = .ok (.getfield 30, 3) := by decide +kernel
theorem dX4_run_7 : decode cX4_run 7 = .ok (.getfield 64, 3) := by decide +kernel
theorem dX4_run_10 : decode cX4_run 10 = .ok (.if_icmp .ge 27, 3) := by decide +kernel
theorem dX4_run_13 : decode cX4_run 13 = .ok (.aload_n 0, 1) := by decide +kernel
theorem dX4_run_14 : decode cX4_run 14 = .ok (.iload_n 1, 1) := by decide +kernel
theorem dX4_run_15 : decode cX4_run 15 = .ok (.invokevirtual 67, 3) := by decide +kernel
theorem dX4_run_18 : decode cX4_run 18 = .ok (.aload_n 0, 1) := by decide +kernel
theorem dX4_run_19 : decode cX4_run 19 = .ok (.getfield 18, 3) := by decide +kernel
theorem dX4_run_22 : decode cX4_run 22 = .ok (.iload_n 1, 1) := by decide +kernel
theorem dX4_run_23 : decode cX4_run 23 = .ok (.aload_n 0, 1) := by decide +kernel
theorem dX4_run_24 : decode cX4_run 24 = .ok (.sipush 200, 3) := by decide +kernel
theorem dX4_run_27 : decode cX4_run 27 = .ok (.invokevirtual 71, 3) := by decide +kernel
theorem dX4_run_30 : decode cX4_run 30 = .ok (.iastore, 1) := by decide +kernel
theorem dX4_run_31 : decode cX4_run 31 = .ok (.iinc 1 1, 3) := by decide +kernel
theorem dX4_run_34 : decode cX4_run 34 = .ok (.goto (-32), 3) := by decide +kernel
theorem dX4_run_37 : decode cX4_run 37 = .ok (.iconst 0, 1) := by decide +kernel
theorem dX4_run_38 : decode cX4_run 38 = .ok (.istore_n 1, 1) := by decide +kernel
theorem dX4_run_39 : decode cX4_run 39 = .ok (.iload_n 1, 1) := by decide +kernel
theorem dX4_run_40 : decode cX4_run 40 = .ok (.aload_n 0, 1) := by decide +kernel
theorem dX4_run_41 : decode cX4_run 41 = .ok (.getfield 30, 3) := by decide +kernel
theorem dX4_run_44 : decode cX4_run 44 = .ok (.getfield 64, 3) := by decide +kernel
theorem dX4_run_47 : decode cX4_run 47 = .ok (.if_icmp .ge 68, 3) := by decide +kernel
theorem dX4_run_50 : decode cX4_run 50 = .ok (.iconst 0, 1) := by decide +kernel
theorem dX4_run_51 : decode cX4_run 51 = .ok (.istore_n 2, 1) := by decide +kernel
theorem dX4_run_52 : decode cX4_run 52 = .ok (.iconst 0, 1) := by decide +kernel
theorem dX4_run_53 : decode cX4_run 53 = .ok (.istore_n 3, 1) := by decide +kernel
theorem dX4_run_54 : decode cX4_run 54 = .ok (.iload_n 3, 1) := by decide +kernel
theorem dX4_run_55 : decode cX4_run 55 = .ok (.aload_n 0, 1) := by decide +kernel
theorem dX4_run_56 : decode cX4_run 56 = .ok (.getfield 30, 3) := by decide +kernel
theorem dX4_run_59 : decode cX4_run 59 = .ok (.getfield 64, 3) := by decide +kernel
theorem dX4_run_62 : decode cX4_run 62 = .ok (.if_icmp .ge 31, 3) := by decide +kernel
theorem dX4_run_65 : decode cX4_run 65 = .ok (.iload_n 2, 1) := by decide +kernel
theorem dX4_run_66 : decode cX4_run 66 = .ok (.iload_n 3, 1) := by decide +kernel
theorem dX4_run_67 : decode cX4_run 67 = .ok (.iload_n 1, 1) := by decide +kernel
theorem dX4_run_68 : decode cX4_run 68 = .ok (.if_icmp .eq 16, 3) := by decide +kernel
theorem dX4_run_71 : decode cX4_run 71 = .ok (.aload_n 0, 1) := by decide +kernel
theorem dX4_run_72 : decode cX4_run 72 = .ok (.iload_n 3, 1) := by decide +kernel
theorem dX4_run_73 : decode cX4_run 73 = .ok (.iload_n 1, 1) := by decide +kernel
theorem dX4_run_74 : decode cX4_run 74 = .ok (.invokevirtual 75, 3) := by decide +kernel
theorem dX4_run_77 : decode cX4_run 77 = .ok (.ifCond .eq 7, 3) := by decide +kernel
theorem dX4_run_80 : decode cX4_run 80 = .ok (.iconst 1, 1) := by decide +kernel
theorem dX4_run_81 : decode cX4_run 81 = .ok (.goto 4, 3) := by decide +kernel
theorem dX4_run_84 : decode cX4_run 84 = .ok (.iconst 0, 1) := by decide +kernel
theorem dX4_run_85 : decode cX4_run 85 = .ok (.iadd, 1) := by decide +kernel
theorem dX4_run_86 : decode cX4_run 86 = .ok (.istore_n 2, 1) := by decide +kernel
theorem dX4_run_87 : decode cX4_run 87 = .ok (.iinc 3 1, 3) := by decide +kernel
theorem dX4_run_90 : decode cX4_run 90 = .ok (.goto (-36), 3) := by decide +kernel
theorem dX4_run_93 : decode cX4_run 93 = .ok (.aload_n 0, 1) := by decide +kernel
theorem dX4_run_94 : decode cX4_run 94 = .ok (.getfield 21, 3) := by decide +kernel
theorem dX4_run_97 : decode cX4_run 97 = .ok (.iload_n 1, 1) := by decide +kernel
theorem dX4_run_98 : decode cX4_run 98 = .ok (.iload_n 2, 1) := by decide +kernel
theorem dX4_run_99 : decode cX4_run 99 = .ok (.iconst 1, 1) := by decide +kernel
theorem dX4_run_100 : decode cX4_run 100 = .ok (.iadd, 1) := by decide +kernel
theorem dX4_run_101 : decode cX4_run 101 = .ok (.iastore, 1) := by decide +kernel
theorem dX4_run_102 : decode cX4_run 102 = .ok (.aload_n 0, 1) := by decide +kernel
theorem dX4_run_103 : decode cX4_run 103 = .ok (.getfield 24, 3) := by decide +kernel
theorem dX4_run_106 : decode cX4_run 106 = .ok (.iload_n 2, 1) := by decide +kernel
theorem dX4_run_107 : decode cX4_run 107 = .ok (.iload_n 1, 1) := by decide +kernel
theorem dX4_run_108 : decode cX4_run 108 = .ok (.iastore, 1) := by decide +kernel
theorem dX4_run_109 : decode cX4_run 109 = .ok (.iinc 1 1, 3) := by decide +kernel
theorem dX4_run_112 : decode cX4_run 112 = .ok (.goto (-73), 3) := by decide +kernel
theorem dX4_run_115 : decode cX4_run 115 = .ok (.return_, 1) := by decide +kernel
theorem dX4_mount_0 : decode cX4_mount 0 = .ok (.aload_n 0, 1) := by decide +kernel
theorem dX4_mount_1 : decode cX4_mount 1 = .ok (.getfield 30, 3) := by decide +kernel
theorem dX4_mount_4 : decode cX4_mount 4 = .ok (.aload_n 0, 1) := by decide +kernel
theorem dX4_mount_5 : decode cX4_mount 5 = .ok (.getfield 15, 3) := by decide +kernel
theorem dX4_mount_8 : decode cX4_mount 8 = .ok (.iload_n 1, 1) := by decide +kernel
theorem dX4_mount_9 : decode cX4_mount 9 = .ok (.iaload, 1) := by decide +kernel
theorem dX4_mount_10 : decode cX4_mount 10 = .ok (.invokevirtual 79, 3) := by decide +kernel
theorem dX4_mount_13 : decode cX4_mount 13 = .ok (.ifCond .eq 12, 3) := by decide +kernel
theorem dX4_mount_16 : decode cX4_mount 16 = .ok (.aload_n 0, 1) := by decide +kernel
theorem dX4_mount_17 : decode cX4_mount 17 = .ok (.getfield 15, 3) := by decide +kernel
theorem dX4_mount_20 : decode cX4_mount 20 = .ok (.iload_n 1, 1) := by decide +kernel
theorem dX4_mount_21 : decode cX4_mount 21 = .ok (.iaload, 1) := by decide +kernel
theorem dX4_mount_22 : decode cX4_mount 22 = .ok (.goto 4, 3) := by decide +kernel
theorem dX4_mount_25 : decode cX4_mount 25 = .ok (.iload_n 1, 1) := by decide +kernel
theorem dX4_mount_26 : decode cX4_mount 26 = .ok (.istore_n 2, 1) := by decide +kernel
theorem dX4_mount_27 : decode cX4_mount 27 = .ok (.aload_n 0, 1) := by decide +kernel
theorem dX4_mount_28 : decode cX4_mount 28 = .ok (.getfield 30, 3) := by decide +kernel
theorem dX4_mount_31 : decode cX4_mount 31 = .ok (.getfield 83, 3) := by decide +kernel
theorem dX4_mount_34 : decode cX4_mount 34 = .ok (.iload_n 2, 1) := by decide +kernel
theorem dX4_mount_35 : decode cX4_mount 35 = .ok (.iaload, 1) := by decide +kernel
theorem dX4_mount_36 : decode cX4_mount 36 = .ok (.bipush (-4), 2) := by decide +kernel
theorem dX4_mount_38 : decode cX4_mount 38 = .ok (.if_icmp .ne 11, 3) := by decide +kernel
theorem dX4_mount_41 : decode cX4_mount 41 = .ok (.aload_n 0, 1) := by decide +kernel
theorem dX4_mount_42 : decode cX4_mount 42 = .ok (.iload_n 2, 1) := by decide +kernel
theorem dX4_mount_43 : decode cX4_mount 43 = .ok (.invokevirtual 86, 3) := by decide +kernel
theorem dX4_mount_46 : decode cX4_mount 46 = .ok (.goto 16, 3) := by decide +kernel
theorem dX4_mount_49 : decode cX4_mount 49 = .ok (.aload_n 0, 1) := by decide +kernel
theorem dX4_mount_50 : decode cX4_mount 50 = .ok (.aload_n 0, 1) := by decide +kernel
theorem dX4_mount_51 : decode cX4_mount 51 = .ok (.getfield 30, 3) := by decide +kernel
theorem dX4_mount_54 : decode cX4_mount 54 = .ok (.getfield 83, 3) := by decide +kernel
theorem dX4_mount_57 : decode cX4_mount 57 = .ok (.iload_n 2, 1) := by decide +kernel
theorem dX4_mount_58 : decode cX4_mount 58 = .ok (.iaload, 1) := by decide +kernel
theorem dX4_mount_59 : decode cX4_mount 59 = .ok (.invokevirtual 89, 3) := by decide +kernel
theorem dX4_mount_62 : decode cX4_mount 62 = .ok (.aload_n 0, 1) := by decide +kernel
theorem dX4_mount_63 : decode cX4_mount 63 = .ok (.aload_n 0, 1) := by decide +kernel
theorem dX4_mount_64 : decode cX4_mount 64 = .ok (.invokevirtual 92, 3) := by decide +kernel
theorem dX4_mount_67 : decode cX4_mount 67 = .ok (.putfield 96, 3) := by decide +kernel
theorem dX4_mount_70 : decode cX4_mount 70 = .ok (.return_, 1) := by decide +kernel
theorem dX4_mountBeast_0 : decode cX4_mountBeast 0 = .ok (.iconst 0, 1) := by decide +kernel
theorem dX4_mountBeast_1 : decode cX4_mountBeast 1 = .ok (.istore_n 2, 1) := by decide +kernel
theorem dX4_mountBeast_2 : decode cX4_mountBeast 2 = .ok (.iconst 0, 1) := by decide +kernel
theorem dX4_mountBeast_3 : decode cX4_mountBeast 3 = .ok (.istore_n 3, 1) := by decide +kernel
theorem dX4_mountBeast_4 : decode cX4_mountBeast 4 = .ok (.iload_n 3, 1) := by decide +kernel
theorem dX4_mountBeast_5 : decode cX4_mountBeast 5 = .ok (.aload_n 0, 1) := by decide +kernel
theorem dX4_mountBeast_6 : decode cX4_mountBeast 6 = .ok (.getfield 30, 3) := by decide +kernel
theorem dX4_mountBeast_9 : decode cX4_mountBeast 9 = .ok (.getfield 64, 3) := by decide +kernel
theorem dX4_mountBeast_12 : decode cX4_mountBeast 12 = .ok (.if_icmp .ge 35, 3) := by decide +kernel
theorem dX4_mountBeast_15 : decode cX4_mountBeast 15 = .ok (.iload_n 2, 1) := by decide +kernel
theorem dX4_mountBeast_16 : decode cX4_mountBeast 16 = .ok (.aload_n 0, 1) := by decide +kernel
theorem dX4_mountBeast_17 : decode cX4_mountBeast 17 = .ok (.getfield 15, 3) := by decide +kernel
theorem dX4_mountBeast_20 : decode cX4_mountBeast 20 = .ok (.iload_n 3, 1) := by decide +kernel
theorem dX4_mountBeast_21 : decode cX4_mountBeast 21 = .ok (.iaload, 1) := by decide +kernel
theorem dX4_mountBeast_22 : decode cX4_mountBeast 22 = .ok (.iload_n 1, 1) := by decide +kernel
theorem dX4_mountBeast_23 : decode cX4_mountBeast 23 = .ok (.if_icmp .ne 15, 3) := by decide +kernel
theorem dX4_mountBeast_26 : decode cX4_mountBeast 26 = .ok (.aload_n 0, 1) := by decide +kernel
theorem dX4_mountBeast_27 : decode cX4_mountBeast 27 = .ok (.getfield 30, 3) := by decide +kernel
theorem dX4_mountBeast_30 : decode cX4_mountBeast 30 = .ok (.getfield 99, 3) := by decide +kernel
theorem dX4_mountBeast_33 : decode cX4_mountBeast 33 = .ok (.iload_n 3, 1) := by decide +kernel
theorem dX4_mountBeast_34 : decode cX4_mountBeast 34 = .ok (.iaload, 1) := by decide +kernel
theorem dX4_mountBeast_35 : decode cX4_mountBeast 35 = .ok (.goto 4, 3) := by decide +kernel
theorem dX4_mountBeast_38 : decode cX4_mountBeast 38 = .ok (.iconst 0, 1) := by decide +kernel
theorem dX4_mountBeast_39 : decode cX4_mountBeast 39 = .ok (.iadd, 1) := by decide +kernel
theorem dX4_mountBeast_40 : decode cX4_mountBeast 40 = .ok (.istore_n 2, 1) := by decide +kernel
theorem dX4_mountBeast_41 : decode cX4_mountBeast 41 = .ok (.iinc 3 1, 3) := by decide +kernel
theorem dX4_mountBeast_44 : decode cX4_mountBeast 44 = .ok (.goto (-40), 3) := by decide +kernel
theorem dX4_mountBeast_47 : decode cX4_mountBeast 47 = .ok (.aload_n 0, 1) := by decide +kernel
theorem dX4_mountBeast_48 : decode cX4_mountBeast 48 = .ok (.aload_n 0, 1) := by decide +kernel
theorem dX4_mountBeast_49 : decode cX4_mountBeast 49 = .ok (.getfield 30, 3) := by decide +kernel
theorem dX4_mountBeast_52 : decode cX4_mountBeast 52 = .ok (.getfield 102, 3) := by decide +kernel
theorem dX4_mountBeast_55 : decode cX4_mountBeast 55 = .ok (.iload_n 1, 1) := by decide +kernel
theorem dX4_mountBeast_56 : decode cX4_mountBeast 56 = .ok (.iaload, 1) := by decide +kernel
theorem dX4_mountBeast_57 : decode cX4_mountBeast 57 = .ok (.iload_n 2, 1) := by decide +kernel
theorem dX4_mountBeast_58 : decode cX4_mountBeast 58 = .ok (.iconst 3, 1) := by decide +kernel
theorem dX4_mountBeast_59 : decode cX4_mountBeast 59 = .ok (.idiv, 1) := by decide +kernel
theorem dX4_mountBeast_60 : decode cX4_mountBeast 60 = .ok (.isub, 1) := by decide +kernel
theorem dX4_mountBeast_61 : decode cX4_mountBeast 61 = .ok (.putfield 105, 3) := by decide +kernel
theorem dX4_mountBeast_64 : decode cX4_mountBeast 64 = .ok (.aload_n 0, 1) := by decide +kernel
theorem dX4_mountBeast_65 : decode cX4_mountBeast 65 = .ok (.aload_n 0, 1) := by decide +kernel
theorem dX4_mountBeast_66 : decode cX4_mountBeast 66 = .ok (.getfield 30, 3) := by decide +kernel
theorem dX4_mountBeast_69 : decode cX4_mountBeast 69 = .ok (.getfield 108, 3) := by decide +kernel
theorem dX4_mountBeast_72 : decode cX4_mountBeast 72 = .ok (.iload_n 1, 1) := by decide +kernel
theorem dX4_mountBeast_73 : decode cX4_mountBeast 73 = .ok (.iaload, 1) := by decide +kernel
theorem dX4_mountBeast_74 : decode cX4_mountBeast 74 = .ok (.putfield 111, 3) := by decide +kernel
theorem dX4_mountBeast_77 : decode cX4_mountBeast 77 = .ok (.aload_n 0, 1) := by decide +kernel
theorem dX4_mountBeast_78 : decode cX4_mountBeast 78 = .ok (.aload_n 0, 1) := by decide +kernel
theorem dX4_mountBeast_79 : decode cX4_mountBeast 79 = .ok (.getfield 111, 3) := by decide +kernel
theorem dX4_mountBeast_82 : decode cX4_mountBeast 82 = .ok (.iconst 3, 1) := by decide +kernel
theorem dX4_mountBeast_83 : decode cX4_mountBeast 83 = .ok (.if_icmp .ne 14, 3) := by decide +kernel
theorem dX4_mountBeast_86 : decode cX4_mountBeast 86 = .ok (.aload_n 0, 1) := by decide +kernel
theorem dX4_mountBeast_87 : decode cX4_mountBeast 87 = .ok (.getfield 9, 3) := by decide +kernel
theorem dX4_mountBeast_90 : decode cX4_mountBeast 90 = .ok (.iload_n 1, 1) := by decide +kernel
theorem dX4_mountBeast_91 : decode cX4_mountBeast 91 = .ok (.iaload, 1) := by decide +kernel
theorem dX4_mountBeast_92 : decode cX4_mountBeast 92 = .ok (.iconst 3, 1) := by decide +kernel
theorem dX4_mountBeast_93 : decode cX4_mountBeast 93 = .ok (.iadd, 1) := by decide +kernel
theorem dX4_mountBeast_94 : decode cX4_mountBeast 94 = .ok (.goto 9, 3) := by decide +kernel
theorem dX4_mountBeast_97 : decode cX4_mountBeast 97 = .ok (.aload_n 0, 1) := by decide +kernel
theorem dX4_mountBeast_98 : decode cX4_mountBeast 98 = .ok (.getfield 9, 3) := by decide +kernel
theorem dX4_mountBeast_101 : decode cX4_mountBeast 101 = .ok (.iload_n 1, 1) := by decide +kernel
theorem dX4_mountBeast_102 : decode cX4_mountBeast 102 = .ok (.iaload, 1) := by decide +kernel
theorem dX4_mountBeast_103 : decode cX4_mountBeast 103 = .ok (.putfield 114, 3) := by decide +kernel
theorem dX4_mountBeast_106 : decode cX4_mountBeast 106 = .ok (.return_, 1) := by decide +kernel
theorem dX4_mountRaft_0 : decode cX4_mountRaft 0 = .ok (.iconst 0, 1) := by decide +kernel
theorem dX4_mountRaft_1 : decode cX4_mountRaft 1 = .ok (.istore_n 2, 1) := by decide +kernel
theorem dX4_mountRaft_2 : decode cX4_mountRaft 2 = .ok (.aload_n 0, 1) := by decide +kernel
theorem dX4_mountRaft_3 : decode cX4_mountRaft 3 = .ok (.iconst 0, 1) := by decide +kernel
theorem dX4_mountRaft_4 : decode cX4_mountRaft 4 = .ok (.putfield 114, 3) := by decide +kernel
theorem dX4_mountRaft_7 : decode cX4_mountRaft 7 = .ok (.iconst 0, 1) := by decide +kernel
theorem dX4_mountRaft_8 : decode cX4_mountRaft 8 = .ok (.istore_n 3, 1) := by decide +kernel
theorem dX4_mountRaft_9 : decode cX4_mountRaft 9 = .ok (.iload_n 3, 1) := by decide +kernel
theorem dX4_mountRaft_10 : decode cX4_mountRaft 10 = .ok (.aload_n 0, 1) := by decide +kernel
theorem dX4_mountRaft_11 : decode cX4_mountRaft 11 = .ok (.getfield 30, 3) := by decide +kernel
theorem dX4_mountRaft_14 : decode cX4_mountRaft 14 = .ok (.getfield 64, 3) := by decide +kernel
theorem dX4_mountRaft_17 : decode cX4_mountRaft 17 = .ok (.if_icmp .ge 51, 3) := by decide +kernel
theorem dX4_mountRaft_20 : decode cX4_mountRaft 20 = .ok (.aload_n 0, 1) := by decide +kernel
theorem dX4_mountRaft_21 : decode cX4_mountRaft 21 = .ok (.getfield 30, 3) := by decide +kernel
theorem dX4_mountRaft_24 : decode cX4_mountRaft 24 = .ok (.getfield 83, 3) := by decide +kernel
theorem dX4_mountRaft_27 : decode cX4_mountRaft 27 = .ok (.iload_n 3, 1) := by decide +kernel
theorem dX4_mountRaft_28 : decode cX4_mountRaft 28 = .ok (.iaload, 1) := by decide +kernel
theorem dX4_mountRaft_29 : decode cX4_mountRaft 29 = .ok (.iload_n 1, 1) := by decide +kernel
theorem dX4_mountRaft_30 : decode cX4_mountRaft 30 = .ok (.if_icmp .ne 32, 3) := by decide +kernel
theorem dX4_mountRaft_33 : decode cX4_mountRaft 33 = .ok (.iload_n 2, 1) := by decide +kernel
theorem dX4_mountRaft_34 : decode cX4_mountRaft 34 = .ok (.aload_n 0, 1) := by decide +kernel
theorem dX4_mountRaft_35 : decode cX4_mountRaft 35 = .ok (.getfield 30, 3) := by decide +kernel
theorem dX4_mountRaft_38 : decode cX4_mountRaft 38 = .ok (.getfield 102, 3) := by decide +kernel
theorem dX4_mountRaft_41 : decode cX4_mountRaft 41 = .ok (.iload_n 3, 1) := by decide +kernel
theorem dX4_mountRaft_42 : decode cX4_mountRaft 42 = .ok (.iaload, 1) := by decide +kernel
theorem dX4_mountRaft_43 : decode cX4_mountRaft 43 = .ok (.iadd, 1) := by decide +kernel
theorem dX4_mountRaft_44 : decode cX4_mountRaft 44 = .ok (.istore_n 2, 1) := by decide +kernel
theorem dX4_mountRaft_45 : decode cX4_mountRaft 45 = .ok (.aload_n 0, 1) := by decide +kernel
theorem dX4_mountRaft_46 : decode cX4_mountRaft 46 = .ok (.aload_n 0, 1) := by decide +kernel
theorem dX4_mountRaft_47 : decode cX4_mountRaft 47 = .ok (.getfield 114, 3) := by decide +kernel
theorem dX4_mountRaft_50 : decode cX4_mountRaft 50 = .ok (.aload_n 0, 1) := by decide +kernel
theorem dX4_mountRaft_51 : decode cX4_mountRaft 51 = .ok (.getfield 9, 3) := by decide +kernel
theorem dX4_mountRaft_54 : decode cX4_mountRaft 54 = .ok (.iload_n 3, 1) := by decide +kernel
theorem dX4_mountRaft_55 : decode cX4_mountRaft 55 = .ok (.iaload, 1) := by decide +kernel
theorem dX4_mountRaft_56 : decode cX4_mountRaft 56 = .ok (.invokestatic 117, 3) := by decide +kernel
theorem dX4_mountRaft_59 : decode cX4_mountRaft 59 = .ok (.putfield 114, 3) := by decide +kernel
theorem dX4_mountRaft_62 : decode cX4_mountRaft 62 = .ok (.iinc 3 1, 3) := by decide +kernel
theorem dX4_mountRaft_65 : decode cX4_mountRaft 65 = .ok (.goto (-56), 3) := by decide +kernel
theorem dX4_mountRaft_68 : decode cX4_mountRaft 68 = .ok (.aload_n 0, 1) := by decide +kernel
theorem dX4_mountRaft_69 : decode cX4_mountRaft 69 = .ok (.iload_n 2, 1) := by decide +kernel
theorem dX4_mountRaft_70 : decode cX4_mountRaft 70 = .ok (.iconst 3, 1) := by decide +kernel
theorem dX4_mountRaft_71 : decode cX4_mountRaft 71 = .ok (.idiv, 1) := by decide +kernel
theorem dX4_mountRaft_72 : decode cX4_mountRaft 72 = .ok (.putfield 105, 3) := by decide +kernel
theorem dX4_mountRaft_75 : decode cX4_mountRaft 75 = .ok (.aload_n 0, 1) := by decide +kernel
theorem dX4_mountRaft_76 : decode cX4_mountRaft 76 = .ok (.iconst 4, 1) := by decide +kernel
theorem dX4_mountRaft_77 : decode cX4_mountRaft 77 = .ok (.putfield 111, 3) := by decide +kernel
theorem dX4_mountRaft_80 : decode cX4_mountRaft 80 = .ok (.return_, 1) := by decide +kernel
theorem dX4_earliestHelp_0 : decode cX4_earliestHelp 0 = .ok (.sipush 201, 3) := by decide +kernel
theorem dX4_earliestHelp_3 : decode cX4_earliestHelp 3 = .ok (.istore_n 1, 1) := by decide +kernel
theorem dX4_earliestHelp_4 : decode cX4_earliestHelp 4 = .ok (.iconst 0, 1) := by decide +kernel
theorem dX4_earliestHelp_5 : decode cX4_earliestHelp 5 = .ok (.istore_n 2, 1) := by decide +kernel
theorem dX4_earliestHelp_6 : decode cX4_earliestHelp 6 = .ok (.iload_n 2, 1) := by decide +kernel
theorem dX4_earliestHelp_7 : decode cX4_earliestHelp 7 = .ok (.aload_n 0, 1) := by decide +kernel
theorem dX4_earliestHelp_8 : decode cX4_earliestHelp 8 = .ok (.getfield 30, 3) := by decide +kernel
theorem dX4_earliestHelp_11 : decode cX4_earliestHelp 11 = .ok (.getfield 64, 3) := by decide +kernel
theorem dX4_earliestHelp_14 : decode cX4_earliestHelp 14 = .ok (.if_icmp .ge 33, 3) := by decide +kernel
theorem dX4_earliestHelp_17 : decode cX4_earliestHelp 17 = .ok (.aload_n 0, 1) := by decide +kernel
theorem dX4_earliestHelp_18 : decode cX4_earliestHelp 18 = .ok (.getfield 30, 3) := by decide +kernel
theorem dX4_earliestHelp_21 : decode cX4_earliestHelp 21 = .ok (.getfield 108, 3) := by decide +kernel
theorem dX4_earliestHelp_24 : decode cX4_earliestHelp 24 = .ok (.iload_n 2, 1) := by decide +kernel
theorem dX4_earliestHelp_25 : decode cX4_earliestHelp 25 = .ok (.iaload, 1) := by decide +kernel
theorem dX4_earliestHelp_26 : decode cX4_earliestHelp 26 = .ok (.iconst 2, 1) := by decide +kernel
theorem dX4_earliestHelp_27 : decode cX4_earliestHelp 27 = .ok (.if_icmp .ne 14, 3) := by decide +kernel
theorem dX4_earliestHelp_30 : decode cX4_earliestHelp 30 = .ok (.iload_n 1, 1) := by decide +kernel
theorem dX4_earliestHelp_31 : decode cX4_earliestHelp 31 = .ok (.aload_n 0, 1) := by decide +kernel
theorem dX4_earliestHelp_32 : decode cX4_earliestHelp 32 = .ok (.getfield 9, 3) := by decide +kernel
theorem dX4_earliestHelp_35 : decode cX4_earliestHelp 35 = .ok (.iload_n 2, 1) := by decide +kernel
theorem dX4_earliestHelp_36 : decode cX4_earliestHelp 36 = .ok (.iaload, 1) := by decide +kernel
theorem dX4_earliestHelp_37 : decode cX4_earliestHelp 37 = .ok (.invokestatic 123, 3) := by decide +kernel
theorem dX4_earliestHelp_40 : decode cX4_earliestHelp 40 = .ok (.istore_n 1, 1) := by decide +kernel
theorem dX4_earliestHelp_41 : decode cX4_earliestHelp 41 = .ok (.iinc 2 1, 3) := by decide +kernel
theorem dX4_earliestHelp_44 : decode cX4_earliestHelp 44 = .ok (.goto (-38), 3) := by decide +kernel
theorem dX4_earliestHelp_47 : decode cX4_earliestHelp 47 = .ok (.iload_n 1, 1) := by decide +kernel
theorem dX4_earliestHelp_48 : decode cX4_earliestHelp 48 = .ok (.ireturn, 1) := by decide +kernel
theorem dX4_moveUntil_0 : decode cX4_moveUntil 0 = .ok (.aload_n 0, 1) := by decide +kernel
theorem dX4_moveUntil_1 : decode cX4_moveUntil 1 = .ok (.iconst 0, 1) := by decide +kernel
theorem dX4_moveUntil_2 : decode cX4_moveUntil 2 = .ok (.putfield 126, 3) := by decide +kernel
theorem dX4_moveUntil_5 : decode cX4_moveUntil 5 = .ok (.aload_n 0, 1) := by decide +kernel
theorem dX4_moveUntil_6 : decode cX4_moveUntil 6 = .ok (.getfield 114, 3) := by decide +kernel
theorem dX4_moveUntil_9 : decode cX4_moveUntil 9 = .ok (.iconst 1, 1) := by decide +kernel
theorem dX4_moveUntil_10 : decode cX4_moveUntil 10 = .ok (.iadd, 1) := by decide +kernel
theorem dX4_moveUntil_11 : decode cX4_moveUntil 11 = .ok (.istore_n 2, 1) := by decide +kernel
theorem dX4_moveUntil_12 : decode cX4_moveUntil 12 = .ok (.iload_n 2, 1) := by decide +kernel
theorem dX4_moveUntil_13 : decode cX4_moveUntil 13 = .ok (.iload_n 1, 1) := by decide +kernel
theorem dX4_moveUntil_14 : decode cX4_moveUntil 14 = .ok (.if_icmp .gt 36, 3) := by decide +kernel
theorem dX4_moveUntil_17 : decode cX4_moveUntil 17 = .ok (.aload_n 0, 1) := by decide +kernel
theorem dX4_moveUntil_18 : decode cX4_moveUntil 18 = .ok (.dup, 1) := by decide +kernel
theorem dX4_moveUntil_19 : decode cX4_moveUntil 19 = .ok (.getfield 126, 3) := by decide +kernel
theorem dX4_moveUntil_22 : decode cX4_moveUntil 22 = .ok (.aload_n 0, 1) := by decide +kernel
theorem dX4_moveUntil_23 : decode cX4_moveUntil 23 = .ok (.iload_n 2, 1) := by decide +kernel
theorem dX4_moveUntil_24 : decode cX4_moveUntil 24 = .ok (.invokevirtual 129, 3) := by decide +kernel
theorem dX4_moveUntil_27 : decode cX4_moveUntil 27 = .ok (.iadd, 1) := by decide +kernel
theorem dX4_moveUntil_28 : decode cX4_moveUntil 28 = .ok (.putfield 126, 3) := by decide +kernel
theorem dX4_moveUntil_31 : decode cX4_moveUntil 31 = .ok (.aload_n 0, 1) := by decide +kernel
theorem dX4_moveUntil_32 : decode cX4_moveUntil 32 = .ok (.getfield 126, 3) := by decide +kernel
theorem dX4_moveUntil_35 : decode cX4_moveUntil 35 = .ok (.aload_n 0, 1) := by decide +kernel
theorem dX4_moveUntil_36 : decode cX4_moveUntil 36 = .ok (.getfield 44, 3) := by decide +kernel
theorem dX4_moveUntil_39 : decode cX4_moveUntil 39 = .ok (.if_icmp .lt 5, 3) := by decide +kernel
theorem dX4_moveUntil_42 : decode cX4_moveUntil 42 = .ok (.iload_n 2, 1) := by decide +kernel
theorem dX4_moveUntil_43 : decode cX4_moveUntil 43 = .ok (.ireturn, 1) := by decide +kernel
theorem dX4_moveUntil_44 : decode cX4_moveUntil 44 = .ok (.iinc 2 1, 3) := by decide +kernel
theorem dX4_moveUntil_47 : decode cX4_moveUntil 47 = .ok (.goto (-35), 3) := by decide +kernel
theorem dX4_moveUntil_50 : decode cX4_moveUntil 50 = .ok (.sipush 201, 3) := by decide +kernel
theorem dX4_moveUntil_53 : decode cX4_moveUntil 53 = .ok (.ireturn, 1) := by decide +kernel
theorem dX4_yardsIn_0 : decode cX4_yardsIn 0 = .ok (.iload_n 1, 1) := by decide +kernel
theorem dX4_yardsIn_1 : decode cX4_yardsIn 1 = .ok (.iconst 5, 1) := by decide +kernel
theorem dX4_yardsIn_2 : decode cX4_yardsIn 2 = .ok (.if_icmp .gt 21, 3) := by decide +kernel
theorem dX4_yardsIn_5 : decode cX4_yardsIn 5 = .ok (.aload_n 0, 1) := by decide +kernel
theorem dX4_yardsIn_6 : decode cX4_yardsIn 6 = .ok (.getfield 45, 3) := by decide +kernel
theorem dX4_yardsIn_9 : decode cX4_yardsIn 9 = .ok (.iload_n 1, 1) := by decide +kernel
theorem dX4_yardsIn_10 : decode cX4_yardsIn 10 = .ok (.iconst 1, 1) := by decide +kernel
theorem dX4_yardsIn_11 : decode cX4_yardsIn 11 = .ok (.isub, 1) := by decide +kernel
theorem dX4_yardsIn_12 : decode cX4_yardsIn 12 = .ok (.ishr, 1) := by decide +kernel
theorem dX4_yardsIn_13 : decode cX4_yardsIn 13 = .ok (.iconst 1, 1) := by decide +kernel
theorem dX4_yardsIn_14 : decode cX4_yardsIn 14 = .ok (.iand, 1) := by decide +kernel
theorem dX4_yardsIn_15 : decode cX4_yardsIn 15 = .ok (.iconst 1, 1) := by decide +kernel
theorem dX4_yardsIn_16 : decode cX4_yardsIn 16 = .ok (.if_icmp .ne 7, 3) := by decide +kernel
theorem dX4_yardsIn_19 : decode cX4_yardsIn 19 = .ok (.iconst 1, 1) := by decide +kernel
theorem dX4_yardsIn_20 : decode cX4_yardsIn 20 = .ok (.goto 4, 3) := by decide +kernel
theorem dX4_yardsIn_23 : decode cX4_yardsIn 23 = .ok (.iconst 0, 1) := by decide +kernel
theorem dX4_yardsIn_24 : decode cX4_yardsIn 24 = .ok (.istore_n 2, 1) := by decide +kernel
theorem dX4_yardsIn_25 : decode cX4_yardsIn 25 = .ok (.iload_n 2, 1) := by decide +kernel
theorem dX4_yardsIn_26 : decode cX4_yardsIn 26 = .ok (.ifCond .ne 17, 3) := by decide +kernel
theorem dX4_yardsIn_29 : decode cX4_yardsIn 29 = .ok (.aload_n 0, 1) := by decide +kernel
theorem dX4_yardsIn_30 : decode cX4_yardsIn 30 = .ok (.getfield 111, 3) := by decide +kernel
theorem dX4_yardsIn_33 : decode cX4_yardsIn 33 = .ok (.iconst 2, 1) := by decide +kernel
theorem dX4_yardsIn_34 : decode cX4_yardsIn 34 = .ok (.if_icmp .ne 11, 3) := by decide +kernel
theorem dX4_yardsIn_37 : decode cX4_yardsIn 37 = .ok (.iload_n 1, 1) := by decide +kernel
theorem dX4_yardsIn_38 : decode cX4_yardsIn 38 = .ok (.iconst 5, 1) := by decide +kernel
theorem dX4_yardsIn_39 : decode cX4_yardsIn 39 = .ok (.irem, 1) := by decide +kernel
theorem dX4_yardsIn_40 : decode cX4_yardsIn 40 = .ok (.ifCond .ne 5, 3) := by decide +kernel
theorem dX4_yardsIn_43 : decode cX4_yardsIn 43 = .ok (.iconst 0, 1) := by decide +kernel
theorem dX4_yardsIn_44 : decode cX4_yardsIn 44 = .ok (.ireturn, 1) := by decide +kernel
theorem dX4_yardsIn_45 : decode cX4_yardsIn 45 = .ok (.iconst 1, 1) := by decide +kernel
theorem dX4_yardsIn_46 : decode cX4_yardsIn 46 = .ok (.aload_n 0, 1) := by decide +kernel
theorem dX4_yardsIn_47 : decode cX4_yardsIn 47 = .ok (.getfield 105, 3) := by decide +kernel
theorem dX4_yardsIn_50 : decode cX4_yardsIn 50 = .ok (.aload_n 0, 1) := by decide +kernel
theorem dX4_yardsIn_51 : decode cX4_yardsIn 51 = .ok (.iload_n 1, 1) := by decide +kernel
theorem dX4_yardsIn_52 : decode cX4_yardsIn 52 = .ok (.invokevirtual 132, 3) := by decide +kernel
theorem dX4_yardsIn_55 : decode cX4_yardsIn 55 = .ok (.isub, 1) := by decide +kernel
theorem dX4_yardsIn_56 : decode cX4_yardsIn 56 = .ok (.invokestatic 117, 3) := by decide +kernel
theorem dX4_yardsIn_59 : decode cX4_yardsIn 59 = .ok (.ireturn, 1) := by decide +kernel
theorem dX4_takenIn_0 : decode cX4_takenIn 0 = .ok (.iload_n 1, 1) := by decide +kernel
theorem dX4_takenIn_1 : decode cX4_takenIn 1 = .ok (.iconst 1, 1) := by decide +kernel
theorem dX4_takenIn_2 : decode cX4_takenIn 2 = .ok (.sipush 200, 3) := by decide +kernel
theorem dX4_takenIn_5 : decode cX4_takenIn 5 = .ok (.invokestatic 135, 3) := by decide +kernel
theorem dX4_takenIn_8 : decode cX4_takenIn 8 = .ok (.ifCond .ne 5, 3) := by decide +kernel
theorem dX4_takenIn_11 : decode cX4_takenIn 11 = .ok (.iconst 0, 1) := by decide +kernel
theorem dX4_takenIn_12 : decode cX4_takenIn 12 = .ok (.ireturn, 1) := by decide +kernel
theorem dX4_takenIn_13 : decode cX4_takenIn 13 = .ok (.aload_n 0, 1) := by decide +kernel
theorem dX4_takenIn_14 : decode cX4_takenIn 14 = .ok (.getfield 111, 3) := by decide +kernel
theorem dX4_takenIn_17 : decode cX4_takenIn 17 = .ok (.iconst 4, 1) := by decide +kernel
theorem dX4_takenIn_18 : decode cX4_takenIn 18 = .ok (.if_icmp .eq 11, 3) := by decide +kernel
theorem dX4_takenIn_21 : decode cX4_takenIn 21 = .ok (.aload_n 0, 1) := by decide +kernel
theorem dX4_takenIn_22 : decode cX4_takenIn 22 = .ok (.getfield 111, 3) := by decide +kernel
theorem dX4_takenIn_25 : decode cX4_takenIn 25 = .ok (.iconst 2, 1) := by decide +kernel
theorem dX4_takenIn_26 : decode cX4_takenIn 26 = .ok (.if_icmp .ne 10, 3) := by decide +kernel
theorem dX4_takenIn_29 : decode cX4_takenIn 29 = .ok (.aload_n 0, 1) := by decide +kernel
theorem dX4_takenIn_30 : decode cX4_takenIn 30 = .ok (.getfield 39, 3) := by decide +kernel
theorem dX4_takenIn_33 : decode cX4_takenIn 33 = .ok (.iload_n 1, 1) := by decide +kernel
theorem dX4_takenIn_34 : decode cX4_takenIn 34 = .ok (.iaload, 1) := by decide +kernel
theorem dX4_takenIn_35 : decode cX4_takenIn 35 = .ok (.ireturn, 1) := by decide +kernel
theorem dX4_takenIn_36 : decode cX4_takenIn 36 = .ok (.iload_n 1, 1) := by decide +kernel
theorem dX4_takenIn_37 : decode cX4_takenIn 37 = .ok (.iconst 5, 1) := by decide +kernel
theorem dX4_takenIn_38 : decode cX4_takenIn 38 = .ok (.if_icmp .le 20, 3) := by decide +kernel
theorem dX4_takenIn_41 : decode cX4_takenIn 41 = .ok (.iload_n 1, 1) := by decide +kernel
theorem dX4_takenIn_42 : decode cX4_takenIn 42 = .ok (.iconst 5, 1) := by decide +kernel
theorem dX4_takenIn_43 : decode cX4_takenIn 43 = .ok (.irem, 1) := by decide +kernel
theorem dX4_takenIn_44 : decode cX4_takenIn 44 = .ok (.iconst 1, 1) := by decide +kernel
theorem dX4_takenIn_45 : decode cX4_takenIn 45 = .ok (.if_icmp .ne 13, 3) := by decide +kernel
theorem dX4_takenIn_48 : decode cX4_takenIn 48 = .ok (.aload_n 0, 1) := by decide +kernel
theorem dX4_takenIn_49 : decode cX4_takenIn 49 = .ok (.getfield 96, 3) := by decide +kernel
theorem dX4_takenIn_52 : decode cX4_takenIn 52 = .ok (.iload_n 1, 1) := by decide +kernel
theorem dX4_takenIn_53 : decode cX4_takenIn 53 = .ok (.if_icmp .ge 5, 3) := by decide +kernel
theorem dX4_takenIn_56 : decode cX4_takenIn 56 = .ok (.iconst 0, 1) := by decide +kernel
theorem dX4_takenIn_57 : decode cX4_takenIn 57 = .ok (.ireturn, 1) := by decide +kernel
theorem dX4_takenIn_58 : decode cX4_takenIn 58 = .ok (.aload_n 0, 1) := by decide +kernel
theorem dX4_takenIn_59 : decode cX4_takenIn 59 = .ok (.getfield 111, 3) := by decide +kernel
theorem dX4_takenIn_62 : decode cX4_takenIn 62 = .ok (.iconst 1, 1) := by decide +kernel
theorem dX4_takenIn_63 : decode cX4_takenIn 63 = .ok (.if_icmp .ne 18, 3) := by decide +kernel
theorem dX4_takenIn_66 : decode cX4_takenIn 66 = .ok (.iconst 0, 1) := by decide +kernel
theorem dX4_takenIn_67 : decode cX4_takenIn 67 = .ok (.aload_n 0, 1) := by decide +kernel
theorem dX4_takenIn_68 : decode cX4_takenIn 68 = .ok (.getfield 39, 3) := by decide +kernel
theorem dX4_takenIn_71 : decode cX4_takenIn 71 = .ok (.iload_n 1, 1) := by decide +kernel
theorem dX4_takenIn_72 : decode cX4_takenIn 72 = .ok (.iaload, 1) := by decide +kernel
theorem dX4_takenIn_73 : decode cX4_takenIn 73 = .ok (.iconst 1, 1) := by decide +kernel
theorem dX4_takenIn_74 : decode cX4_takenIn 74 = .ok (.isub, 1) := by decide +kernel
theorem dX4_takenIn_75 : decode cX4_takenIn 75 = .ok (.invokestatic 117, 3) := by decide +kernel
theorem dX4_takenIn_78 : decode cX4_takenIn 78 = .ok (.goto 9, 3) := by decide +kernel
theorem dX4_takenIn_81 : decode cX4_takenIn 81 = .ok (.aload_n 0, 1) := by decide +kernel
theorem dX4_takenIn_82 : decode cX4_takenIn 82 = .ok (.getfield 39, 3) := by decide +kernel
theorem dX4_takenIn_85 : decode cX4_takenIn 85 = .ok (.iload_n 1, 1) := by decide +kernel
theorem dX4_takenIn_86 : decode cX4_takenIn 86 = .ok (.iaload, 1) := by decide +kernel
theorem dX4_takenIn_87 : decode cX4_takenIn 87 = .ok (.ireturn, 1) := by decide +kernel
theorem dX4_isAhead_0 : decode cX4_isAhead 0 = .ok (.aload_n 0, 1) := by decide +kernel
theorem dX4_isAhead_1 : decode cX4_isAhead 1 = .ok (.iload_n 1, 1) := by decide +kernel
theorem dX4_isAhead_2 : decode cX4_isAhead 2 = .ok (.invokevirtual 139, 3) := by decide +kernel
theorem dX4_isAhead_5 : decode cX4_isAhead 5 = .ok (.istore_n 3, 1) := by decide +kernel
theorem dX4_isAhead_6 : decode cX4_isAhead 6 = .ok (.aload_n 0, 1) := by decide +kernel
theorem dX4_isAhead_7 : decode cX4_isAhead 7 = .ok (.iload_n 2, 1) := by decide +kernel
theorem dX4_isAhead_8 : decode cX4_isAhead 8 = .ok (.invokevirtual 139, 3) := by decide +kernel
theorem dX4_isAhead_11 : decode cX4_isAhead 11 = .ok (.istore 4, 2) := by decide +kernel
theorem dX4_isAhead_13 : decode cX4_isAhead 13 = .ok (.iload_n 3, 1) := by decide +kernel
theorem dX4_isAhead_14 : decode cX4_isAhead 14 = .ok (.iload 4, 2) := by decide +kernel
theorem dX4_isAhead_16 : decode cX4_isAhead 16 = .ok (.if_icmp .ne 41, 3) := by decide +kernel
theorem dX4_isAhead_19 : decode cX4_isAhead 19 = .ok (.iload_n 2, 1) := by decide +kernel
theorem dX4_isAhead_20 : decode cX4_isAhead 20 = .ok (.iload 4, 2) := by decide +kernel
theorem dX4_isAhead_22 : decode cX4_isAhead 22 = .ok (.if_icmp .eq 29, 3) := by decide +kernel
theorem dX4_isAhead_25 : decode cX4_isAhead 25 = .ok (.iload_n 1, 1) := by decide +kernel
theorem dX4_isAhead_26 : decode cX4_isAhead 26 = .ok (.iload_n 3, 1) := by decide +kernel
theorem dX4_isAhead_27 : decode cX4_isAhead 27 = .ok (.if_icmp .eq 28, 3) := by decide +kernel
theorem dX4_isAhead_30 : decode cX4_isAhead 30 = .ok (.aload_n 0, 1) := by decide +kernel
theorem dX4_isAhead_31 : decode cX4_isAhead 31 = .ok (.getfield 30, 3) := by decide +kernel
theorem dX4_isAhead_34 : decode cX4_isAhead 34 = .ok (.getfield 142, 3) := by decide +kernel
theorem dX4_isAhead_37 : decode cX4_isAhead 37 = .ok (.iload_n 1, 1) := by decide +kernel
theorem dX4_isAhead_38 : decode cX4_isAhead 38 = .ok (.iaload, 1) := by decide +kernel
theorem dX4_isAhead_39 : decode cX4_isAhead 39 = .ok (.aload_n 0, 1) := by decide +kernel
theorem dX4_isAhead_40 : decode cX4_isAhead 40 = .ok (.getfield 30, 3) := by decide +kernel
theorem dX4_isAhead_43 : decode cX4_isAhead 43 = .ok (.getfield 142, 3) := by decide +kernel
theorem dX4_isAhead_46 : decode cX4_isAhead 46 = .ok (.iload_n 2, 1) := by decide +kernel
theorem dX4_isAhead_47 : decode cX4_isAhead 47 = .ok (.iaload, 1) := by decide +kernel
theorem dX4_isAhead_48 : decode cX4_isAhead 48 = .ok (.if_icmp .ge 7, 3) := by decide +kernel
theorem dX4_isAhead_51 : decode cX4_isAhead 51 = .ok (.iconst 1, 1) := by decide +kernel
theorem dX4_isAhead_52 : decode cX4_isAhead 52 = .ok (.goto 4, 3) := by decide +kernel
theorem dX4_isAhead_55 : decode cX4_isAhead 55 = .ok (.iconst 0, 1) := by decide +kernel
theorem dX4_isAhead_56 : decode cX4_isAhead 56 = .ok (.ireturn, 1) := by decide +kernel
theorem dX4_isAhead_57 : decode cX4_isAhead 57 = .ok (.aload_n 0, 1) := by decide +kernel
theorem dX4_isAhead_58 : decode cX4_isAhead 58 = .ok (.getfield 18, 3) := by decide +kernel
theorem dX4_isAhead_61 : decode cX4_isAhead 61 = .ok (.iload_n 3, 1) := by decide +kernel
theorem dX4_isAhead_62 : decode cX4_isAhead 62 = .ok (.iaload, 1) := by decide +kernel
theorem dX4_isAhead_63 : decode cX4_isAhead 63 = .ok (.aload_n 0, 1) := by decide +kernel
theorem dX4_isAhead_64 : decode cX4_isAhead 64 = .ok (.getfield 18, 3) := by decide +kernel
theorem dX4_isAhead_67 : decode cX4_isAhead 67 = .ok (.iload 4, 2) := by decide +kernel
theorem dX4_isAhead_69 : decode cX4_isAhead 69 = .ok (.iaload, 1) := by decide +kernel
theorem dX4_isAhead_70 : decode cX4_isAhead 70 = .ok (.if_icmp .eq 25, 3) := by decide +kernel
theorem dX4_isAhead_73 : decode cX4_isAhead 73 = .ok (.aload_n 0, 1) := by decide +kernel
theorem dX4_isAhead_74 : decode cX4_isAhead 74 = .ok (.getfield 18, 3) := by decide +kernel
theorem dX4_isAhead_77 : decode cX4_isAhead 77 = .ok (.iload_n 3, 1) := by decide +kernel
theorem dX4_isAhead_78 : decode cX4_isAhead 78 = .ok (.iaload, 1) := by decide +kernel
theorem dX4_isAhead_79 : decode cX4_isAhead 79 = .ok (.aload_n 0, 1) := by decide +kernel
theorem dX4_isAhead_80 : decode cX4_isAhead 80 = .ok (.getfield 18, 3) := by decide +kernel
theorem dX4_isAhead_83 : decode cX4_isAhead 83 = .ok (.iload 4, 2) := by decide +kernel
theorem dX4_isAhead_85 : decode cX4_isAhead 85 = .ok (.iaload, 1) := by decide +kernel
theorem dX4_isAhead_86 : decode cX4_isAhead 86 = .ok (.if_icmp .ge 7, 3) := by decide +kernel
theorem dX4_isAhead_89 : decode cX4_isAhead 89 = .ok (.iconst 1, 1) := by decide +kernel
theorem dX4_isAhead_90 : decode cX4_isAhead 90 = .ok (.goto 4, 3) := by decide +kernel
theorem dX4_isAhead_93 : decode cX4_isAhead 93 = .ok (.iconst 0, 1) := by decide +kernel
theorem dX4_isAhead_94 : decode cX4_isAhead 94 = .ok (.ireturn, 1) := by decide +kernel
theorem dX4_isAhead_95 : decode cX4_isAhead 95 = .ok (.aload_n 0, 1) := by decide +kernel
theorem dX4_isAhead_96 : decode cX4_isAhead 96 = .ok (.getfield 30, 3) := by decide +kernel
theorem dX4_isAhead_99 : decode cX4_isAhead 99 = .ok (.getfield 142, 3) := by decide +kernel
theorem dX4_isAhead_102 : decode cX4_isAhead 102 = .ok (.iload_n 3, 1) := by decide +kernel
theorem dX4_isAhead_103 : decode cX4_isAhead 103 = .ok (.iaload, 1) := by decide +kernel
theorem dX4_isAhead_104 : decode cX4_isAhead 104 = .ok (.aload_n 0, 1) := by decide +kernel
theorem dX4_isAhead_105 : decode cX4_isAhead 105 = .ok (.getfield 30, 3) := by decide +kernel
theorem dX4_isAhead_108 : decode cX4_isAhead 108 = .ok (.getfield 142, 3) := by decide +kernel
theorem dX4_isAhead_111 : decode cX4_isAhead 111 = .ok (.iload 4, 2) := by decide +kernel
theorem dX4_isAhead_113 : decode cX4_isAhead 113 = .ok (.iaload, 1) := by decide +kernel
theorem dX4_isAhead_114 : decode cX4_isAhead 114 = .ok (.if_icmp .ge 7, 3) := by decide +kernel
theorem dX4_isAhead_117 : decode cX4_isAhead 117 = .ok (.iconst 1, 1) := by decide +kernel
theorem dX4_isAhead_118 : decode cX4_isAhead 118 = .ok (.goto 4, 3) := by decide +kernel
theorem dX4_isAhead_121 : decode cX4_isAhead 121 = .ok (.iconst 0, 1) := by decide +kernel
theorem dX4_isAhead_122 : decode cX4_isAhead 122 = .ok (.ireturn, 1) := by decide +kernel
theorem dX4_leader_0 : decode cX4_leader 0 = .ok (.aload_n 0, 1) := by decide +kernel
theorem dX4_leader_1 : decode cX4_leader 1 = .ok (.getfield 30, 3) := by decide +kernel
theorem dX4_leader_4 : decode cX4_leader 4 = .ok (.aload_n 0, 1) := by decide +kernel
theorem dX4_leader_5 : decode cX4_leader 5 = .ok (.getfield 15, 3) := by decide +kernel
theorem dX4_leader_8 : decode cX4_leader 8 = .ok (.iload_n 1, 1) := by decide +kernel
theorem dX4_leader_9 : decode cX4_leader 9 = .ok (.iaload, 1) := by decide +kernel
theorem dX4_leader_10 : decode cX4_leader 10 = .ok (.invokevirtual 79, 3) := by decide +kernel
theorem dX4_leader_13 : decode cX4_leader 13 = .ok (.ifCond .eq 19, 3) := by decide +kernel
theorem dX4_leader_16 : decode cX4_leader 16 = .ok (.aload_n 0, 1) := by decide +kernel
theorem dX4_leader_17 : decode cX4_leader 17 = .ok (.getfield 18, 3) := by decide +kernel
theorem dX4_leader_20 : decode cX4_leader 20 = .ok (.iload_n 1, 1) := by decide +kernel
theorem dX4_leader_21 : decode cX4_leader 21 = .ok (.iaload, 1) := by decide +kernel
theorem dX4_leader_22 : decode cX4_leader 22 = .ok (.sipush 201, 3) := by decide +kernel
theorem dX4_leader_25 : decode cX4_leader 25 = .ok (.if_icmp .eq 7, 3) := by decide +kernel
theorem dX4_leader_28 : decode cX4_leader 28 = .ok (.iconst 1, 1) := by decide +kernel
theorem dX4_leader_29 : decode cX4_leader 29 = .ok (.goto 4, 3) := by decide +kernel
theorem dX4_leader_32 : decode cX4_leader 32 = .ok (.iconst 0, 1) := by decide +kernel
theorem dX4_leader_33 : decode cX4_leader 33 = .ok (.istore_n 2, 1) := by decide +kernel
theorem dX4_leader_34 : decode cX4_leader 34 = .ok (.iload_n 2, 1) := by decide +kernel
theorem dX4_leader_35 : decode cX4_leader 35 = .ok (.ifCond .eq 12, 3) := by decide +kernel
theorem dX4_leader_38 : decode cX4_leader 38 = .ok (.aload_n 0, 1) := by decide +kernel
theorem dX4_leader_39 : decode cX4_leader 39 = .ok (.getfield 15, 3) := by decide +kernel
theorem dX4_leader_42 : decode cX4_leader 42 = .ok (.iload_n 1, 1) := by decide +kernel
theorem dX4_leader_43 : decode cX4_leader 43 = .ok (.iaload, 1) := by decide +kernel
theorem dX4_leader_44 : decode cX4_leader 44 = .ok (.goto 4, 3) := by decide +kernel
theorem dX4_leader_47 : decode cX4_leader 47 = .ok (.iload_n 1, 1) := by decide +kernel
theorem dX4_leader_48 : decode cX4_leader 48 = .ok (.ireturn, 1) := by decide +kernel
theorem dX4_firstRiderOrSelf_0 : decode cX4_firstRiderOrSelf 0 = .ok (.iload_n 1, 1) := by decide +kernel
theorem dX4_firstRiderOrSelf_1 : decode cX4_firstRiderOrSelf 1 = .ok (.istore_n 2, 1) := by decide +kernel
theorem dX4_firstRiderOrSelf_2 : decode cX4_firstRiderOrSelf 2 = .ok (.iconst 0, 1) := by decide +kernel
theorem dX4_firstRiderOrSelf_3 : decode cX4_firstRiderOrSelf 3 = .ok (.istore_n 3, 1) := by decide +kernel
theorem dX4_firstRiderOrSelf_4 : decode cX4_firstRiderOrSelf 4 = .ok (.iload_n 3, 1) := by decide +kernel
theorem dX4_firstRiderOrSelf_5 : decode cX4_firstRiderOrSelf 5 = .ok (.aload_n 0, 1) := by decide +kernel
theorem dX4_firstRiderOrSelf_6 : decode cX4_firstRiderOrSelf 6 = .ok (.getfield 30, 3) := by decide +kernel
theorem dX4_firstRiderOrSelf_9 : decode cX4_firstRiderOrSelf 9 = .ok (.getfield 64, 3) := by decide +kernel
theorem dX4_firstRiderOrSelf_12 : decode cX4_firstRiderOrSelf 12 = .ok (.if_icmp .ge 47, 3) := by decide +kernel
theorem dX4_firstRiderOrSelf_15 : decode cX4_firstRiderOrSelf 15 = .ok (.aload_n 0, 1) := by decide +kernel
theorem dX4_firstRiderOrSelf_16 : decode cX4_firstRiderOrSelf 16 = .ok (.getfield 15, 3) := by decide +kernel
theorem dX4_firstRiderOrSelf_19 : decode cX4_firstRiderOrSelf 19 = .ok (.iload_n 3, 1) := by decide +kernel
theorem dX4_firstRiderOrSelf_20 : decode cX4_firstRiderOrSelf 20 = .ok (.iaload, 1) := by decide +kernel
theorem dX4_firstRiderOrSelf_21 : decode cX4_firstRiderOrSelf 21 = .ok (.iload_n 1, 1) := by decide +kernel
theorem dX4_firstRiderOrSelf_22 : decode cX4_firstRiderOrSelf 22 = .ok (.if_icmp .ne 31, 3) := by decide +kernel
theorem dX4_firstRiderOrSelf_25 : decode cX4_firstRiderOrSelf 25 = .ok (.iload_n 2, 1) := by decide +kernel
theorem dX4_firstRiderOrSelf_26 : decode cX4_firstRiderOrSelf 26 = .ok (.iload_n 1, 1) := by decide +kernel
theorem dX4_firstRiderOrSelf_27 : decode cX4_firstRiderOrSelf 27 = .ok (.if_icmp .eq 24, 3) := by decide +kernel
theorem dX4_firstRiderOrSelf_30 : decode cX4_firstRiderOrSelf 30 = .ok (.aload_n 0, 1) := by decide +kernel
theorem dX4_firstRiderOrSelf_31 : decode cX4_firstRiderOrSelf 31 = .ok (.getfield 30, 3) := by decide +kernel
theorem dX4_firstRiderOrSelf_34 : decode cX4_firstRiderOrSelf 34 = .ok (.getfield 142, 3) := by decide +kernel
theorem dX4_firstRiderOrSelf_37 : decode cX4_firstRiderOrSelf 37 = .ok (.iload_n 3, 1) := by decide +kernel
theorem dX4_firstRiderOrSelf_38 : decode cX4_firstRiderOrSelf 38 = .ok (.iaload, 1) := by decide +kernel
theorem dX4_firstRiderOrSelf_39 : decode cX4_firstRiderOrSelf 39 = .ok (.aload_n 0, 1) := by decide +kernel
theorem dX4_firstRiderOrSelf_40 : decode cX4_firstRiderOrSelf 40 = .ok (.getfield 30, 3) := by decide +kernel
theorem dX4_firstRiderOrSelf_43 : decode cX4_firstRiderOrSelf 43 = .ok (.getfield 142, 3) := by decide +kernel
theorem dX4_firstRiderOrSelf_46 : decode cX4_firstRiderOrSelf 46 = .ok (.iload_n 2, 1) := by decide +kernel
theorem dX4_firstRiderOrSelf_47 : decode cX4_firstRiderOrSelf 47 = .ok (.iaload, 1) := by decide +kernel
theorem dX4_firstRiderOrSelf_48 : decode cX4_firstRiderOrSelf 48 = .ok (.if_icmp .ge 5, 3) := by decide +kernel
theorem dX4_firstRiderOrSelf_51 : decode cX4_firstRiderOrSelf 51 = .ok (.iload_n 3, 1) := by decide +kernel
theorem dX4_firstRiderOrSelf_52 : decode cX4_firstRiderOrSelf 52 = .ok (.istore_n 2, 1) := by decide +kernel
theorem dX4_firstRiderOrSelf_53 : decode cX4_firstRiderOrSelf 53 = .ok (.iinc 3 1, 3) := by decide +kernel
theorem dX4_firstRiderOrSelf_56 : decode cX4_firstRiderOrSelf 56 = .ok (.goto (-52), 3) := by decide +kernel
theorem dX4_firstRiderOrSelf_59 : decode cX4_firstRiderOrSelf 59 = .ok (.iload_n 2, 1) := by decide +kernel
theorem dX4_firstRiderOrSelf_60 : decode cX4_firstRiderOrSelf 60 = .ok (.ireturn, 1) := by decide +kernel
theorem dX4_lastLanding_0 : decode cX4_lastLanding 0 = .ok (.iconst 0, 1) := by decide +kernel
theorem dX4_lastLanding_1 : decode cX4_lastLanding 1 = .ok (.istore_n 1, 1) := by decide +kernel
theorem dX4_lastLanding_2 : decode cX4_lastLanding 2 = .ok (.iconst 0, 1) := by decide +kernel
theorem dX4_lastLanding_3 : decode cX4_lastLanding 3 = .ok (.istore_n 2, 1) := by decide +kernel
theorem dX4_lastLanding_4 : decode cX4_lastLanding 4 = .ok (.iload_n 2, 1) := by decide +kernel
theorem dX4_lastLanding_5 : decode cX4_lastLanding 5 = .ok (.aload_n 0, 1) := by decide +kernel
theorem dX4_lastLanding_6 : decode cX4_lastLanding 6 = .ok (.getfield 30, 3) := by decide +kernel
theorem dX4_lastLanding_9 : decode cX4_lastLanding 9 = .ok (.getfield 64, 3) := by decide +kernel
theorem dX4_lastLanding_12 : decode cX4_lastLanding 12 = .ok (.if_icmp .ge 32, 3) := by decide +kernel
theorem dX4_lastLanding_15 : decode cX4_lastLanding 15 = .ok (.aload_n 0, 1) := by decide +kernel
theorem dX4_lastLanding_16 : decode cX4_lastLanding 16 = .ok (.getfield 18, 3) := by decide +kernel
theorem dX4_lastLanding_19 : decode cX4_lastLanding 19 = .ok (.iload_n 2, 1) := by decide +kernel
theorem dX4_lastLanding_20 : decode cX4_lastLanding 20 = .ok (.iaload, 1) := by decide +kernel
theorem dX4_lastLanding_21 : decode cX4_lastLanding 21 = .ok (.sipush 201, 3) := by decide +kernel
theorem dX4_lastLanding_24 : decode cX4_lastLanding 24 = .ok (.if_icmp .eq 14, 3) := by decide +kernel
theorem dX4_lastLanding_27 : decode cX4_lastLanding 27 = .ok (.iload_n 1, 1) := by decide +kernel
theorem dX4_lastLanding_28 : decode cX4_lastLanding 28 = .ok (.aload_n 0, 1) := by decide +kernel
theorem dX4_lastLanding_29 : decode cX4_lastLanding 29 = .ok (.getfield 18, 3) := by decide +kernel
theorem dX4_lastLanding_32 : decode cX4_lastLanding 32 = .ok (.iload_n 2, 1) := by decide +kernel
theorem dX4_lastLanding_33 : decode cX4_lastLanding 33 = .ok (.iaload, 1) := by decide +kernel
theorem dX4_lastLanding_34 : decode cX4_lastLanding 34 = .ok (.invokestatic 117, 3) := by decide +kernel
theorem dX4_lastLanding_37 : decode cX4_lastLanding 37 = .ok (.istore_n 1, 1) := by decide +kernel
theorem dX4_lastLanding_38 : decode cX4_lastLanding 38 = .ok (.iinc 2 1, 3) := by decide +kernel
theorem dX4_lastLanding_41 : decode cX4_lastLanding 41 = .ok (.goto (-37), 3) := by decide +kernel
theorem dX4_lastLanding_44 : decode cX4_lastLanding 44 = .ok (.iload_n 1, 1) := by decide +kernel
theorem dX4_lastLanding_45 : decode cX4_lastLanding 45 = .ok (.ireturn, 1) := by decide +kernel
theorem dX5_init_0 : decode cX5_init 0 = .ok (.aload_n 0, 1) := by decide +kernel
theorem dX5_init_1 : decode cX5_init 1 = .ok (.invokespecial 3, 3) := by decide +kernel
theorem dX5_init_4 : decode cX5_init 4 = .ok (.aload_n 0, 1) := by decide +kernel
theorem dX5_init_5 : decode cX5_init 5 = .ok (.iconst 4, 1) := by decide +kernel
theorem dX5_init_6 : decode cX5_init 6 = .ok (.newarray .int, 2) := by decide +kernel
theorem dX5_init_8 : decode cX5_init 8 = .ok (.putfield 9, 3) := by decide +kernel
theorem dX5_init_11 : decode cX5_init 11 = .ok (.aload_n 0, 1) := by decide +kernel
theorem dX5_init_12 : decode cX5_init 12 = .ok (.iconst 0, 1) := by decide +kernel
theorem dX5_init_13 : decode cX5_init 13 = .ok (.putfield 15, 3) := by decide +kernel
theorem dX5_init_16 : decode cX5_init 16 = .ok (.return_, 1) := by decide +kernel
theorem dX5_readText_0 : decode cX5_readText 0 = .ok (.aload_n 3, 1) := by decide +kernel
theorem dX5_readText_1 : decode cX5_readText 1 = .ok (.invokevirtual 19, 3) := by decide +kernel
theorem dX5_readText_4 : decode cX5_readText 4 = .ok (.iconst 0, 1) := by decide +kernel
theorem dX5_readText_5 : decode cX5_readText 5 = .ok (.istore 4, 2) := by decide +kernel
theorem dX5_readText_7 : decode cX5_readText 7 = .ok (.iconst 0, 1) := by decide +kernel
theorem dX5_readText_8 : decode cX5_readText 8 = .ok (.istore 5, 2) := by decide +kernel
theorem dX5_readText_10 : decode cX5_readText 10 = .ok (.iload 5, 2) := by decide +kernel
theorem dX5_readText_12 : decode cX5_readText 12 = .ok (.sipush 200, 3) := by decide +kernel
theorem dX5_readText_15 : decode cX5_readText 15 = .ok (.if_icmp .ge 47, 3) := by decide +kernel
theorem dX5_readText_18 : decode cX5_readText 18 = .ok (.iload 4, 2) := by decide +kernel
theorem dX5_readText_20 : decode cX5_readText 20 = .ok (.iload_n 2, 1) := by decide +kernel
theorem dX5_readText_21 : decode cX5_readText 21 = .ok (.if_icmp .ge 41, 3) := by decide +kernel
theorem dX5_readText_24 : decode cX5_readText 24 = .ok (.aload_n 0, 1) := by decide +kernel
theorem dX5_readText_25 : decode cX5_readText 25 = .ok (.aload_n 1, 1) := by decide +kernel
theorem dX5_readText_26 : decode cX5_readText 26 = .ok (.iload_n 2, 1) := by decide +kernel
theorem dX5_readText_27 : decode cX5_readText 27 = .ok (.iload 4, 2) := by decide +kernel
theorem dX5_readText_29 : decode cX5_readText 29 = .ok (.invokevirtual 24, 3) := by decide +kernel
theorem dX5_readText_32 : decode cX5_readText 32 = .ok (.ifCond .eq 15, 3) := by decide +kernel
theorem dX5_readText_35 : decode cX5_readText 35 = .ok (.aload_n 0, 1) := by decide +kernel
theorem dX5_readText_36 : decode cX5_readText 36 = .ok (.aload_n 1, 1) := by decide +kernel
theorem dX5_readText_37 : decode cX5_readText 37 = .ok (.iload 4, 2) := by decide +kernel
theorem dX5_readText_39 : decode cX5_readText 39 = .ok (.caload, 1) := by decide +kernel
theorem dX5_readText_40 : decode cX5_readText 40 = .ok (.aload_n 3, 1) := by decide +kernel
theorem dX5_readText_41 : decode cX5_readText 41 = .ok (.invokevirtual 28, 3) := by decide +kernel
theorem dX5_readText_44 : decode cX5_readText 44 = .ok (.ifCond .ne 6, 3) := by decide +kernel
theorem dX5_readText_47 : decode cX5_readText 47 = .ok (.iload 4, 2) := by decide +kernel
theorem dX5_readText_49 : decode cX5_readText 49 = .ok (.ireturn, 1) := by decide +kernel
theorem dX5_readText_50 : decode cX5_readText 50 = .ok (.aload_n 0, 1) := by decide +kernel
theorem dX5_readText_51 : decode cX5_readText 51 = .ok (.getfield 15, 3) := by decide +kernel
theorem dX5_readText_54 : decode cX5_readText 54 = .ok (.istore 4, 2) := by decide +kernel
theorem dX5_readText_56 : decode cX5_readText 56 = .ok (.iinc 5 1, 3) := by decide +kernel
theorem dX5_readText_59 : decode cX5_readText 59 = .ok (.goto (-49), 3) := by decide +kernel
theorem dX5_readText_62 : decode cX5_readText 62 = .ok (.bipush (-4), 2) := by decide +kernel
theorem dX5_readText_64 : decode cX5_readText 64 = .ok (.ireturn, 1) := by decide +kernel
theorem dX5_readItem_0 : decode cX5_readItem 0 = .ok (.aload_n 1, 1) := by decide +kernel
theorem dX5_readItem_1 : decode cX5_readItem 1 = .ok (.iload_n 3, 1) := by decide +kernel
theorem dX5_readItem_2 : decode cX5_readItem 2 = .ok (.caload, 1) := by decide +kernel
theorem dX5_readItem_3 : decode cX5_readItem 3 = .ok (.invokestatic 32, 3) := by decide +kernel
theorem dX5_readItem_6 : decode cX5_readItem 6 = .ok (.istore 4, 2) := by decide +kernel
theorem dX5_readItem_8 : decode cX5_readItem 8 = .ok (.aload_n 0, 1) := by decide +kernel
theorem dX5_readItem_9 : decode cX5_readItem 9 = .ok (.iload_n 3, 1) := by decide +kernel
theorem dX5_readItem_10 : decode cX5_readItem 10 = .ok (.iconst 1, 1) := by decide +kernel
theorem dX5_readItem_11 : decode cX5_readItem 11 = .ok (.iadd, 1) := by decide +kernel
theorem dX5_readItem_12 : decode cX5_readItem 12 = .ok (.putfield 15, 3) := by decide +kernel
theorem dX5_readItem_15 : decode cX5_readItem 15 = .ok (.iconst 0, 1) := by decide +kernel
theorem dX5_readItem_16 : decode cX5_readItem 16 = .ok (.istore 5, 2) := by decide +kernel
theorem dX5_readItem_18 : decode cX5_readItem 18 = .ok (.iload 5, 2) := by decide +kernel
theorem dX5_readItem_20 : decode cX5_readItem 20 = .ok (.iload 4, 2) := by decide +kernel
theorem dX5_readItem_22 : decode cX5_readItem 22 = .ok (.if_icmp .ge 71, 3) := by decide +kernel
theorem dX5_readItem_25 : decode cX5_readItem 25 = .ok (.aload_n 0, 1) := by decide +kernel
theorem dX5_readItem_26 : decode cX5_readItem 26 = .ok (.aload_n 1, 1) := by decide +kernel
theorem dX5_readItem_27 : decode cX5_readItem 27 = .ok (.iload_n 2, 1) := by decide +kernel
theorem dX5_readItem_28 : decode cX5_readItem 28 = .ok (.iload 5, 2) := by decide +kernel
theorem dX5_readItem_30 : decode cX5_readItem 30 = .ok (.invokevirtual 36, 3) := by decide +kernel
theorem dX5_readItem_33 : decode cX5_readItem 33 = .ok (.ifCond .ne 5, 3) := by decide +kernel
theorem dX5_readItem_36 : decode cX5_readItem 36 = .ok (.iconst 0, 1) := by decide +kernel
theorem dX5_readItem_37 : decode cX5_readItem 37 = .ok (.ireturn, 1) := by decide +kernel
theorem dX5_readItem_38 : decode cX5_readItem 38 = .ok (.iload 5, 2) := by decide +kernel
theorem dX5_readItem_40 : decode cX5_readItem 40 = .ok (.iload 4, 2) := by decide +kernel
theorem dX5_readItem_42 : decode cX5_readItem 42 = .ok (.iconst 1, 1) := by decide +kernel
theorem dX5_readItem_43 : decode cX5_readItem 43 = .ok (.isub, 1) := by decide +kernel
theorem dX5_readItem_44 : decode cX5_readItem 44 = .ok (.if_icmp .ne 8, 3) := by decide +kernel
theorem dX5_readItem_47 : decode cX5_readItem 47 = .ok (.bipush 59, 2) := by decide +kernel
theorem dX5_readItem_49 : decode cX5_readItem 49 = .ok (.goto 5, 3) := by decide +kernel
theorem dX5_readItem_52 : decode cX5_readItem 52 = .ok (.bipush 44, 2) := by decide +kernel
theorem dX5_readItem_54 : decode cX5_readItem 54 = .ok (.istore 6, 2) := by decide +kernel
theorem dX5_readItem_56 : decode cX5_readItem 56 = .ok (.aload_n 0, 1) := by decide +kernel
theorem dX5_readItem_57 : decode cX5_readItem 57 = .ok (.getfield 15, 3) := by decide +kernel
theorem dX5_readItem_60 : decode cX5_readItem 60 = .ok (.iload_n 2, 1) := by decide +kernel
theorem dX5_readItem_61 : decode cX5_readItem 61 = .ok (.if_icmp .ge 14, 3) := by decide +kernel
theorem dX5_readItem_64 : decode cX5_readItem 64 = .ok (.aload_n 1, 1) := by decide +kernel
theorem dX5_readItem_65 : decode cX5_readItem 65 = .ok (.aload_n 0, 1) := by decide +kernel
theorem dX5_readItem_66 : decode cX5_readItem 66 = .ok (.getfield 15, 3) := by decide +kernel
theorem dX5_readItem_69 : decode cX5_readItem 69 = .ok (.caload, 1) := by decide +kernel
theorem dX5_readItem_70 : decode cX5_readItem 70 = .ok (.iload 6, 2) := by decide +kernel
theorem dX5_readItem_72 : decode cX5_readItem 72 = .ok (.if_icmp .eq 5, 3) := by decide +kernel
theorem dX5_readItem_75 : decode cX5_readItem 75 = .ok (.iconst 0, 1) := by decide +kernel
theorem dX5_readItem_76 : decode cX5_readItem 76 = .ok (.ireturn, 1) := by decide +kernel
theorem dX5_readItem_77 : decode cX5_readItem 77 = .ok (.aload_n 0, 1) := by decide +kernel
theorem dX5_readItem_78 : decode cX5_readItem 78 = .ok (.dup, 1) := by decide +kernel
theorem dX5_readItem_79 : decode cX5_readItem 79 = .ok (.getfield 15, 3) := by decide +kernel
theorem dX5_readItem_82 : decode cX5_readItem 82 = .ok (.iconst 1, 1) := by decide +kernel
theorem dX5_readItem_83 : decode cX5_readItem 83 = .ok (.iadd, 1) := by decide +kernel
theorem dX5_readItem_84 : decode cX5_readItem 84 = .ok (.putfield 15, 3) := by decide +kernel
theorem dX5_readItem_87 : decode cX5_readItem 87 = .ok (.iinc 5 1, 3) := by decide +kernel
theorem dX5_readItem_90 : decode cX5_readItem 90 = .ok (.goto (-72), 3) := by decide +kernel
theorem dX5_readItem_93 : decode cX5_readItem 93 = .ok (.iload 4, 2) := by decide +kernel
theorem dX5_readItem_95 : decode cX5_readItem 95 = .ok (.ifCond .le 7, 3) := by decide +kernel
theorem dX5_readItem_98 : decode cX5_readItem 98 = .ok (.iconst 1, 1) := by decide +kernel
theorem dX5_readItem_99 : decode cX5_readItem 99 = .ok (.goto 4, 3) := by decide +kernel
theorem dX5_readItem_102 : decode cX5_readItem 102 = .ok (.iconst 0, 1) := by decide +kernel
theorem dX5_readItem_103 : decode cX5_readItem 103 = .ok (.ireturn, 1) := by decide +kernel
theorem dX5_readNumber_0 : decode cX5_readNumber 0 = .ok (.iconst 0, 1) := by decide +kernel
theorem dX5_readNumber_1 : decode cX5_readNumber 1 = .ok (.istore 4, 2) := by decide +kernel
theorem dX5_readNumber_3 : decode cX5_readNumber 3 = .ok (.iconst 0, 1) := by decide +kernel
theorem dX5_readNumber_4 : decode cX5_readNumber 4 = .ok (.istore 5, 2) := by decide +kernel
theorem dX5_readNumber_6 : decode cX5_readNumber 6 = .ok (.iload 5, 2) := by decide +kernel
theorem dX5_readNumber_8 : decode cX5_readNumber 8 = .ok (.iconst 2, 1) := by decide +kernel
theorem dX5_readNumber_9 : decode cX5_readNumber 9 = .ok (.if_icmp .ge 60, 3) := by decide +kernel
theorem dX5_readNumber_12 : decode cX5_readNumber 12 = .ok (.aload_n 0, 1) := by decide +kernel
theorem dX5_readNumber_13 : decode cX5_readNumber 13 = .ok (.getfield 15, 3) := by decide +kernel
theorem dX5_readNumber_16 : decode cX5_readNumber 16 = .ok (.iload_n 2, 1) := by decide +kernel
theorem dX5_readNumber_17 : decode cX5_readNumber 17 = .ok (.if_icmp .ge 52, 3) := by decide +kernel
theorem dX5_readNumber_20 : decode cX5_readNumber 20 = .ok (.aload_n 1, 1) := by decide +kernel
theorem dX5_readNumber_21 : decode cX5_readNumber 21 = .ok (.aload_n 0, 1) := by decide +kernel
theorem dX5_readNumber_22 : decode cX5_readNumber 22 = .ok (.getfield 15, 3) := by decide +kernel
theorem dX5_readNumber_25 : decode cX5_readNumber 25 = .ok (.caload, 1) := by decide +kernel
theorem dX5_readNumber_26 : decode cX5_readNumber 26 = .ok (.bipush 48, 2) := by decide +kernel
theorem dX5_readNumber_28 : decode cX5_readNumber 28 = .ok (.bipush 57, 2) := by decide +kernel
theorem dX5_readNumber_30 : decode cX5_readNumber 30 = .ok (.invokestatic 39, 3) := by decide +kernel
theorem dX5_readNumber_33 : decode cX5_readNumber 33 = .ok (.ifCond .eq 36, 3) := by decide +kernel
theorem dX5_readNumber_36 : decode cX5_readNumber 36 = .ok (.bipush 10, 2) := by decide +kernel
theorem dX5_readNumber_38 : decode cX5_readNumber 38 = .ok (.iload 4, 2) := by decide +kernel
theorem dX5_readNumber_40 : decode cX5_readNumber 40 = .ok (.imul, 1) := by decide +kernel
theorem dX5_readNumber_41 : decode cX5_readNumber 41 = .ok (.aload_n 1, 1) := by decide +kernel
theorem dX5_readNumber_42 : decode cX5_readNumber 42 = .ok (.aload_n 0, 1) := by decide +kernel
theorem dX5_readNumber_43 : decode cX5_readNumber 43 = .ok (.getfield 15, 3) := by decide +kernel
theorem dX5_readNumber_46 : decode cX5_readNumber 46 = .ok (.caload, 1) := by decide +kernel
theorem dX5_readNumber_47 : decode cX5_readNumber 47 = .ok (.iadd, 1) := by decide +kernel
theorem dX5_readNumber_48 : decode cX5_readNumber 48 = .ok (.bipush 48, 2) := by decide +kernel
theorem dX5_readNumber_50 : decode cX5_readNumber 50 = .ok (.isub, 1) := by decide +kernel
theorem dX5_readNumber_51 : decode cX5_readNumber 51 = .ok (.istore 4, 2) := by decide +kernel
theorem dX5_readNumber_53 : decode cX5_readNumber 53 = .ok (.iinc 5 1, 3) := by decide +kernel
theorem dX5_readNumber_56 : decode cX5_readNumber 56 = .ok (.aload_n 0, 1) := by decide +kernel
theorem dX5_readNumber_57 : decode cX5_readNumber 57 = .ok (.dup, 1) := by decide +kernel
theorem dX5_readNumber_58 : decode cX5_readNumber 58 = .ok (.getfield 15, 3) := by decide +kernel
theorem dX5_readNumber_61 : decode cX5_readNumber 61 = .ok (.iconst 1, 1) := by decide +kernel
theorem dX5_readNumber_62 : decode cX5_readNumber 62 = .ok (.iadd, 1) := by decide +kernel
theorem dX5_readNumber_63 : decode cX5_readNumber 63 = .ok (.putfield 15, 3) := by decide +kernel
theorem dX5_readNumber_66 : decode cX5_readNumber 66 = .ok (.goto (-60), 3) := by decide +kernel
theorem dX5_readNumber_69 : decode cX5_readNumber 69 = .ok (.aload_n 0, 1) := by decide +kernel
theorem dX5_readNumber_70 : decode cX5_readNumber 70 = .ok (.getfield 9, 3) := by decide +kernel
theorem dX5_readNumber_73 : decode cX5_readNumber 73 = .ok (.iload_n 3, 1) := by decide +kernel
theorem dX5_readNumber_74 : decode cX5_readNumber 74 = .ok (.iload 4, 2) := by decide +kernel
theorem dX5_readNumber_76 : decode cX5_readNumber 76 = .ok (.iastore, 1) := by decide +kernel
theorem dX5_readNumber_77 : decode cX5_readNumber 77 = .ok (.iload 5, 2) := by decide +kernel
theorem dX5_readNumber_79 : decode cX5_readNumber 79 = .ok (.ifCond .le 7, 3) := by decide +kernel
theorem dX5_readNumber_82 : decode cX5_readNumber 82 = .ok (.iconst 1, 1) := by decide +kernel
theorem dX5_readNumber_83 : decode cX5_readNumber 83 = .ok (.goto 4, 3) := by decide +kernel
theorem dX5_readNumber_86 : decode cX5_readNumber 86 = .ok (.iconst 0, 1) := by decide +kernel
theorem dX5_readNumber_87 : decode cX5_readNumber 87 = .ok (.ireturn, 1) := by decide +kernel
theorem dX5_numbersBehind_0 : decode cX5_numbersBehind 0 = .ok (.iload_n 0, 1) := by decide +kernel
theorem dX5_numbersBehind_1 : decode cX5_numbersBehind 1 = .ok (.tableswitch 123 97 121 #[117, 115, 119, 123, 123, 123, 123, 123, 123, 123, 123, 123, 123, 123, 123, 123, 123, 119, 121, 123, 123, 119, 121, 123, 119], 115) := by decide +kernel
theorem dX5_numbersBehind_116 : decode cX5_numbersBehind 116 = .ok (.iconst 4, 1) := by decide +kernel
theorem dX5_numbersBehind_117 : decode cX5_numbersBehind 117 = .ok (.ireturn, 1) := by decide +kernel
theorem dX5_numbersBehind_118 : decode cX5_numbersBehind 118 = .ok (.iconst 3, 1) := by decide +kernel
theorem dX5_numbersBehind_119 : decode cX5_numbersBehind 119 = .ok (.ireturn, 1) := by decide +kernel
theorem dX5_numbersBehind_120 : decode cX5_numbersBehind 120 = .ok (.iconst 2, 1) := by decide +kernel
theorem dX5_numbersBehind_121 : decode cX5_numbersBehind 121 = .ok (.ireturn, 1) := by decide +kernel
theorem dX5_numbersBehind_122 : decode cX5_numbersBehind 122 = .ok (.iconst 1, 1) := by decide +kernel
theorem dX5_numbersBehind_123 : decode cX5_numbersBehind 123 = .ok (.ireturn, 1) := by decide +kernel
theorem dX5_numbersBehind_124 : decode cX5_numbersBehind 124 = .ok (.iconst 0, 1) := by decide +kernel
theorem dX5_numbersBehind_125 : decode cX5_numbersBehind 125 = .ok (.ireturn, 1) := by decide +kernel
theorem dX5_tell_0 : decode cX5_tell 0 = .ok (.iload_n 1, 1) := by decide +kernel
theorem dX5_tell_1 : decode cX5_tell 1 = .ok (.tableswitch 257 97 121 #[189, 115, 155, 257, 257, 257, 257, 257, 257, 257, 257, 257, 257, 257, 257, 257, 257, 172, 212, 257, 257, 223, 144, 257, 240], 115) := by decide +kernel
theorem dX5_tell_116 : decode cX5_tell 116 = .ok (.aload_n 2, 1) := by decide +kernel
theorem dX5_tell_117 : decode cX5_tell 117 = .ok (.aload_n 0, 1) := by decide +kernel
theorem dX5_tell_118 : decode cX5_tell 118 = .ok (.getfield 9, 3) := by decide +kernel
theorem dX5_tell_121 : decode cX5_tell 121 = .ok (.iconst 0, 1) := by decide +kernel
theorem dX5_tell_122 : decode cX5_tell 122 = .ok (.iaload, 1) := by decide +kernel
theorem dX5_tell_123 : decode cX5_tell 123 = .ok (.aload_n 0, 1) := by decide +kernel
theorem dX5_tell_124 : decode cX5_tell 124 = .ok (.getfield 9, 3) := by decide +kernel
theorem dX5_tell_127 : decode cX5_tell 127 = .ok (.iconst 1, 1) := by decide +kernel
theorem dX5_tell_128 : decode cX5_tell 128 = .ok (.iaload, 1) := by decide +kernel
theorem dX5_tell_129 : decode cX5_tell 129 = .ok (.aload_n 0, 1) := by decide +kernel
theorem dX5_tell_130 : decode cX5_tell 130 = .ok (.getfield 9, 3) := by decide +kernel
theorem dX5_tell_133 : decode cX5_tell 133 = .ok (.iconst 2, 1) := by decide +kernel
theorem dX5_tell_134 : decode cX5_tell 134 = .ok (.iaload, 1) := by decide +kernel
theorem dX5_tell_135 : decode cX5_tell 135 = .ok (.aload_n 0, 1) := by decide +kernel
theorem dX5_tell_136 : decode cX5_tell 136 = .ok (.getfield 9, 3) := by decide +kernel
theorem dX5_tell_139 : decode cX5_tell 139 = .ok (.iconst 3, 1) := by decide +kernel
theorem dX5_tell_140 : decode cX5_tell 140 = .ok (.iaload, 1) := by decide +kernel
theorem dX5_tell_141 : decode cX5_tell 141 = .ok (.invokevirtual 43, 3) := by decide +kernel
theorem dX5_tell_144 : decode cX5_tell 144 = .ok (.ireturn, 1) := by decide +kernel
theorem dX5_tell_145 : decode cX5_tell 145 = .ok (.aload_n 2, 1) := by decide +kernel
theorem dX5_tell_146 : decode cX5_tell 146 = .ok (.aload_n 0, 1) := by decide +kernel
theorem dX5_tell_147 : decode cX5_tell 147 = .ok (.getfield 9, 3) := by decide +kernel
theorem dX5_tell_150 : decode cX5_tell 150 = .ok (.iconst 0, 1) := by decide +kernel
theorem dX5_tell_151 : decode cX5_tell 151 = .ok (.iaload, 1) := by decide +kernel
theorem dX5_tell_152 : decode cX5_tell 152 = .ok (.invokevirtual 47, 3) := by decide +kernel
theorem dX5_tell_155 : decode cX5_tell 155 = .ok (.ireturn, 1) := by decide +kernel
theorem dX5_tell_156 : decode cX5_tell 156 = .ok (.aload_n 2, 1) := by decide +kernel
theorem dX5_tell_157 : decode cX5_tell 157 = .ok (.aload_n 0, 1) := by decide +kernel
theorem dX5_tell_158 : decode cX5_tell 158 = .ok (.getfield 9, 3) := by decide +kernel
theorem dX5_tell_161 : decode cX5_tell 161 = .ok (.iconst 0, 1) := by decide +kernel
theorem dX5_tell_162 : decode cX5_tell 162 = .ok (.iaload, 1) := by decide +kernel
theorem dX5_tell_163 : decode cX5_tell 163 = .ok (.aload_n 0, 1) := by decide +kernel
theorem dX5_tell_164 : decode cX5_tell 164 = .ok (.getfield 9, 3) := by decide +kernel
theorem dX5_tell_167 : decode cX5_tell 167 = .ok (.iconst 1, 1) := by decide +kernel
theorem dX5_tell_168 : decode cX5_tell 168 = .ok (.iaload, 1) := by decide +kernel
theorem dX5_tell_169 : decode cX5_tell 169 = .ok (.invokevirtual 51, 3) := by decide +kernel
theorem dX5_tell_172 : decode cX5_tell 172 = .ok (.ireturn, 1) := by decide +kernel
theorem dX5_tell_173 : decode cX5_tell 173 = .ok (.aload_n 2, 1) := by decide +kernel
theorem dX5_tell_174 : decode cX5_tell 174 = .ok (.aload_n 0, 1) := by decide +kernel
theorem dX5_tell_175 : decode cX5_tell 175 = .ok (.getfield 9, 3) := by decide +kernel
theorem dX5_tell_178 : decode cX5_tell 178 = .ok (.iconst 0, 1) := by decide +kernel
theorem dX5_tell_179 : decode cX5_tell 179 = .ok (.iaload, 1) := by decide +kernel
theorem dX5_tell_180 : decode cX5_tell 180 = .ok (.aload_n 0, 1) := by decide +kernel
theorem dX5_tell_181 : decode cX5_tell 181 = .ok (.getfield 9, 3) := by decide +kernel
theorem dX5_tell_184 : decode cX5_tell 184 = .ok (.iconst 1, 1) := by decide +kernel
theorem dX5_tell_185 : decode cX5_tell 185 = .ok (.iaload, 1) := by decide +kernel
theorem dX5_tell_186 : decode cX5_tell 186 = .ok (.invokevirtual 55, 3) := by decide +kernel
theorem dX5_tell_189 : decode cX5_tell 189 = .ok (.ireturn, 1) := by decide +kernel
theorem dX5_tell_190 : decode cX5_tell 190 = .ok (.aload_n 2, 1) := by decide +kernel
theorem dX5_tell_191 : decode cX5_tell 191 = .ok (.aload_n 0, 1) := by decide +kernel
theorem dX5_tell_192 : decode cX5_tell 192 = .ok (.getfield 9, 3) := by decide +kernel
theorem dX5_tell_195 : decode cX5_tell 195 = .ok (.iconst 0, 1) := by decide +kernel
theorem dX5_tell_196 : decode cX5_tell 196 = .ok (.iaload, 1) := by decide +kernel
theorem dX5_tell_197 : decode cX5_tell 197 = .ok (.aload_n 0, 1) := by decide +kernel
theorem dX5_tell_198 : decode cX5_tell 198 = .ok (.getfield 9, 3) := by decide +kernel
theorem dX5_tell_201 : decode cX5_tell 201 = .ok (.iconst 1, 1) := by decide +kernel
theorem dX5_tell_202 : decode cX5_tell 202 = .ok (.iaload, 1) := by decide +kernel
theorem dX5_tell_203 : decode cX5_tell 203 = .ok (.aload_n 0, 1) := by decide +kernel
theorem dX5_tell_204 : decode cX5_tell 204 = .ok (.getfield 9, 3) := by decide +kernel
theorem dX5_tell_207 : decode cX5_tell 207 = .ok (.iconst 2, 1) := by decide +kernel
theorem dX5_tell_208 : decode cX5_tell 208 = .ok (.iaload, 1) := by decide +kernel
theorem dX5_tell_209 : decode cX5_tell 209 = .ok (.invokevirtual 58, 3) := by decide +kernel
theorem dX5_tell_212 : decode cX5_tell 212 = .ok (.ireturn, 1) := by decide +kernel
theorem dX5_tell_213 : decode cX5_tell 213 = .ok (.aload_n 2, 1) := by decide +kernel
theorem dX5_tell_214 : decode cX5_tell 214 = .ok (.aload_n 0, 1) := by decide +kernel
theorem dX5_tell_215 : decode cX5_tell 215 = .ok (.getfield 9, 3) := by decide +kernel
theorem dX5_tell_218 : decode cX5_tell 218 = .ok (.iconst 0, 1) := by decide +kernel
theorem dX5_tell_219 : decode cX5_tell 219 = .ok (.iaload, 1) := by decide +kernel
theorem dX5_tell_220 : decode cX5_tell 220 = .ok (.invokevirtual 61, 3) := by decide +kernel
theorem dX5_tell_223 : decode cX5_tell 223 = .ok (.ireturn, 1) := by decide +kernel
theorem dX5_tell_224 : decode cX5_tell 224 = .ok (.aload_n 2, 1) := by decide +kernel
theorem dX5_tell_225 : decode cX5_tell 225 = .ok (.aload_n 0, 1) := by decide +kernel
theorem dX5_tell_226 : decode cX5_tell 226 = .ok (.getfield 9, 3) := by decide +kernel
theorem dX5_tell_229 : decode cX5_tell 229 = .ok (.iconst 0, 1) := by decide +kernel
theorem dX5_tell_230 : decode cX5_tell 230 = .ok (.iaload, 1) := by decide +kernel
theorem dX5_tell_231 : decode cX5_tell 231 = .ok (.aload_n 0, 1) := by decide +kernel
theorem dX5_tell_232 : decode cX5_tell 232 = .ok (.getfield 9, 3) := by decide +kernel
theorem dX5_tell_235 : decode cX5_tell 235 = .ok (.iconst 1, 1) := by decide +kernel
theorem dX5_tell_236 : decode cX5_tell 236 = .ok (.iaload, 1) := by decide +kernel
theorem dX5_tell_237 : decode cX5_tell 237 = .ok (.invokevirtual 64, 3) := by decide +kernel
theorem dX5_tell_240 : decode cX5_tell 240 = .ok (.ireturn, 1) := by decide +kernel
theorem dX5_tell_241 : decode cX5_tell 241 = .ok (.aload_n 2, 1) := by decide +kernel
theorem dX5_tell_242 : decode cX5_tell 242 = .ok (.aload_n 0, 1) := by decide +kernel
theorem dX5_tell_243 : decode cX5_tell 243 = .ok (.getfield 9, 3) := by decide +kernel
theorem dX5_tell_246 : decode cX5_tell 246 = .ok (.iconst 0, 1) := by decide +kernel
theorem dX5_tell_247 : decode cX5_tell 247 = .ok (.iaload, 1) := by decide +kernel
theorem dX5_tell_248 : decode cX5_tell 248 = .ok (.aload_n 0, 1) := by decide +kernel
theorem dX5_tell_249 : decode cX5_tell 249 = .ok (.getfield 9, 3) := by decide +kernel
theorem dX5_tell_252 : decode cX5_tell 252 = .ok (.iconst 1, 1) := by decide +kernel
theorem dX5_tell_253 : decode cX5_tell 253 = .ok (.iaload, 1) := by decide +kernel
theorem dX5_tell_254 : decode cX5_tell 254 = .ok (.invokevirtual 67, 3) := by decide +kernel
theorem dX5_tell_257 : decode cX5_tell 257 = .ok (.ireturn, 1) := by decide +kernel
theorem dX5_tell_258 : decode cX5_tell 258 = .ok (.iconst 0, 1) := by decide +kernel
theorem dX5_tell_259 : decode cX5_tell 259 = .ok (.ireturn, 1) := by decide +kernel
theorem dX6_init_0 : decode cX6_init 0 = .ok (.aload_n 0, 1) := by decide +kernel
theorem dX6_init_1 : decode cX6_init 1 = .ok (.invokespecial 3, 3) := by decide +kernel
theorem dX6_init_4 : decode cX6_init 4 = .ok (.aload_n 0, 1) := by decide +kernel
theorem dX6_init_5 : decode cX6_init 5 = .ok (.bipush 8, 2) := by decide +kernel
theorem dX6_init_7 : decode cX6_init 7 = .ok (.newarray .int, 2) := by decide +kernel
theorem dX6_init_9 : decode cX6_init 9 = .ok (.putfield 9, 3) := by decide +kernel
theorem dX6_init_12 : decode cX6_init 12 = .ok (.aload_n 0, 1) := by decide +kernel
theorem dX6_init_13 : decode cX6_init 13 = .ok (.bipush 8, 2) := by decide +kernel
theorem dX6_init_15 : decode cX6_init 15 = .ok (.newarray .int, 2) := by decide +kernel
theorem dX6_init_17 : decode cX6_init 17 = .ok (.putfield 15, 3) := by decide +kernel
theorem dX6_init_20 : decode cX6_init 20 = .ok (.aload_n 0, 1) := by decide +kernel
theorem dX6_init_21 : decode cX6_init 21 = .ok (.bipush 8, 2) := by decide +kernel
theorem dX6_init_23 : decode cX6_init 23 = .ok (.newarray .int, 2) := by decide +kernel
theorem dX6_init_25 : decode cX6_init 25 = .ok (.putfield 18, 3) := by decide +kernel
theorem dX6_init_28 : decode cX6_init 28 = .ok (.aload_n 0, 1) := by decide +kernel
theorem dX6_init_29 : decode cX6_init 29 = .ok (.bipush 8, 2) := by decide +kernel
theorem dX6_init_31 : decode cX6_init 31 = .ok (.newarray .int, 2) := by decide +kernel
theorem dX6_init_33 : decode cX6_init 33 = .ok (.putfield 21, 3) := by decide +kernel
theorem dX6_init_36 : decode cX6_init 36 = .ok (.aload_n 0, 1) := by decide +kernel
theorem dX6_init_37 : decode cX6_init 37 = .ok (.bipush 8, 2) := by decide +kernel
theorem dX6_init_39 : decode cX6_init 39 = .ok (.newarray .int, 2) := by decide +kernel
theorem dX6_init_41 : decode cX6_init 41 = .ok (.putfield 24, 3) := by decide +kernel
theorem dX6_init_44 : decode cX6_init 44 = .ok (.aload_n 0, 1) := by decide +kernel
theorem dX6_init_45 : decode cX6_init 45 = .ok (.bipush 8, 2) := by decide +kernel
theorem dX6_init_47 : decode cX6_init 47 = .ok (.newarray .int, 2) := by decide +kernel
theorem dX6_init_49 : decode cX6_init 49 = .ok (.putfield 27, 3) := by decide +kernel
theorem dX6_init_52 : decode cX6_init 52 = .ok (.aload_n 0, 1) := by decide +kernel
theorem dX6_init_53 : decode cX6_init 53 = .ok (.bipush 8, 2) := by decide +kernel
theorem dX6_init_55 : decode cX6_init 55 = .ok (.newarray .int, 2) := by decide +kernel
theorem dX6_init_57 : decode cX6_init 57 = .ok (.putfield 30, 3) := by decide +kernel
theorem dX6_init_60 : decode cX6_init 60 = .ok (.aload_n 0, 1) := by decide +kernel
theorem dX6_init_61 : decode cX6_init 61 = .ok (.bipush 8, 2) := by decide +kernel
theorem dX6_init_63 : decode cX6_init 63 = .ok (.newarray .int, 2) := by decide +kernel
theorem dX6_init_65 : decode cX6_init 65 = .ok (.putfield 33, 3) := by decide +kernel
theorem dX6_init_68 : decode cX6_init 68 = .ok (.aload_n 0, 1) := by decide +kernel
theorem dX6_init_69 : decode cX6_init 69 = .ok (.bipush 8, 2) := by decide +kernel
theorem dX6_init_71 : decode cX6_init 71 = .ok (.newarray .int, 2) := by decide +kernel
theorem dX6_init_73 : decode cX6_init 73 = .ok (.putfield 36, 3) := by decide +kernel
theorem dX6_init_76 : decode cX6_init 76 = .ok (.aload_n 0, 1) := by decide +kernel
theorem dX6_init_77 : decode cX6_init 77 = .ok (.iconst 4, 1) := by decide +kernel
theorem dX6_init_78 : decode cX6_init 78 = .ok (.newarray .int, 2) := by decide +kernel
theorem dX6_init_80 : decode cX6_init 80 = .ok (.putfield 39, 3) := by decide +kernel
theorem dX6_init_83 : decode cX6_init 83 = .ok (.aload_n 0, 1) := by decide +kernel
theorem dX6_init_84 : decode cX6_init 84 = .ok (.iconst 4, 1) := by decide +kernel
theorem dX6_init_85 : decode cX6_init 85 = .ok (.newarray .int, 2) := by decide +kernel
theorem dX6_init_87 : decode cX6_init 87 = .ok (.putfield 42, 3) := by decide +kernel
theorem dX6_init_90 : decode cX6_init 90 = .ok (.aload_n 0, 1) := by decide +kernel
theorem dX6_init_91 : decode cX6_init 91 = .ok (.sipush 201, 3) := by decide +kernel
theorem dX6_init_94 : decode cX6_init 94 = .ok (.newarray .int, 2) := by decide +kernel
theorem dX6_init_96 : decode cX6_init 96 = .ok (.putfield 45, 3) := by decide +kernel
theorem dX6_init_99 : decode cX6_init 99 = .ok (.aload_n 0, 1) := by decide +kernel
theorem dX6_init_100 : decode cX6_init 100 = .ok (.iconst 0, 1) := by decide +kernel
theorem dX6_init_101 : decode cX6_init 101 = .ok (.putfield 48, 3) := by decide +kernel
theorem dX6_init_104 : decode cX6_init 104 = .ok (.aload_n 0, 1) := by decide +kernel
theorem dX6_init_105 : decode cX6_init 105 = .ok (.bipush 30, 2) := by decide +kernel
theorem dX6_init_107 : decode cX6_init 107 = .ok (.putfield 52, 3) := by decide +kernel
theorem dX6_init_110 : decode cX6_init 110 = .ok (.aload_n 0, 1) := by decide +kernel
theorem dX6_init_111 : decode cX6_init 111 = .ok (.iconst 0, 1) := by decide +kernel
theorem dX6_init_112 : decode cX6_init 112 = .ok (.putfield 55, 3) := by decide +kernel
theorem dX6_init_115 : decode cX6_init 115 = .ok (.aload_n 0, 1) := by decide +kernel
theorem dX6_init_116 : decode cX6_init 116 = .ok (.iconst 0, 1) := by decide +kernel
theorem dX6_init_117 : decode cX6_init 117 = .ok (.putfield 58, 3) := by decide +kernel
theorem dX6_init_120 : decode cX6_init 120 = .ok (.aload_n 0, 1) := by decide +kernel
theorem dX6_init_121 : decode cX6_init 121 = .ok (.iconst 0, 1) := by decide +kernel
theorem dX6_init_122 : decode cX6_init 122 = .ok (.putfield 61, 3) := by decide +kernel
theorem dX6_init_125 : decode cX6_init 125 = .ok (.aload_n 0, 1) := by decide +kernel
theorem dX6_init_126 : decode cX6_init 126 = .ok (.iconst 0, 1) := by decide +kernel
theorem dX6_init_127 : decode cX6_init 127 = .ok (.putfield 64, 3) := by decide +kernel
theorem dX6_init_130 : decode cX6_init 130 = .ok (.return_, 1) := by decide +kernel
theorem dX6_clear_0 : decode cX6_clear 0 = .ok (.aload_n 0, 1) := by decide +kernel
theorem dX6_clear_1 : decode cX6_clear 1 = .ok (.iconst 0, 1) := by decide +kernel
theorem dX6_clear_2 : decode cX6_clear 2 = .ok (.putfield 48, 3) := by decide +kernel
theorem dX6_clear_5 : decode cX6_clear 5 = .ok (.aload_n 0, 1) := by decide +kernel
theorem dX6_clear_6 : decode cX6_clear 6 = .ok (.bipush 30, 2) := by decide +kernel
theorem dX6_clear_8 : decode cX6_clear 8 = .ok (.putfield 52, 3) := by decide +kernel
theorem dX6_clear_11 : decode cX6_clear 11 = .ok (.aload_n 0, 1) := by decide +kernel
theorem dX6_clear_12 : decode cX6_clear 12 = .ok (.iconst 0, 1) := by decide +kernel
theorem dX6_clear_13 : decode cX6_clear 13 = .ok (.putfield 55, 3) := by decide +kernel
theorem dX6_clear_16 : decode cX6_clear 16 = .ok (.aload_n 0, 1) := by decide +kernel
theorem dX6_clear_17 : decode cX6_clear 17 = .ok (.iconst 0, 1) := by decide +kernel
theorem dX6_clear_18 : decode cX6_clear 18 = .ok (.putfield 58, 3) := by decide +kernel
theorem dX6_clear_21 : decode cX6_clear 21 = .ok (.aload_n 0, 1) := by decide +kernel
theorem dX6_clear_22 : decode cX6_clear 22 = .ok (.iconst 0, 1) := by decide +kernel
theorem dX6_clear_23 : decode cX6_clear 23 = .ok (.putfield 61, 3) := by decide +kernel
theorem dX6_clear_26 : decode cX6_clear 26 = .ok (.aload_n 0, 1) := by decide +kernel
theorem dX6_clear_27 : decode cX6_clear 27 = .ok (.iconst 0, 1) := by decide +kernel
theorem dX6_clear_28 : decode cX6_clear 28 = .ok (.putfield 64, 3) := by decide +kernel
theorem dX6_clear_31 : decode cX6_clear 31 = .ok (.return_, 1) := by decide +kernel
theorem dX6_has_0 : decode cX6_has 0 = .ok (.iload_n 1, 1) := by decide +kernel
theorem dX6_has_1 : decode cX6_has 1 = .ok (.ifCond .lt 15, 3) := by decide +kernel
theorem dX6_has_4 : decode cX6_has 4 = .ok (.iload_n 1, 1) := by decide +kernel
theorem dX6_has_5 : decode cX6_has 5 = .ok (.aload_n 0, 1) := by decide +kernel
theorem dX6_has_6 : decode cX6_has 6 = .ok (.getfield 48, 3) := by decide +kernel
theorem dX6_has_9 : decode cX6_has 9 = .ok (.if_icmp .ge 7, 3) := by decide +kernel
theorem dX6_has_12 : decode cX6_has 12 = .ok (.iconst 1, 1) := by decide +kernel
theorem dX6_has_13 : decode cX6_has 13 = .ok (.goto 4, 3) := by decide +kernel
theorem dX6_has_16 : decode cX6_has 16 = .ok (.iconst 0, 1) := by decide +kernel
theorem dX6_has_17 : decode cX6_has 17 = .ok (.ireturn, 1) := by decide +kernel
theorem dX6_addBeast_0 : decode cX6_addBeast 0 = .ok (.aload_n 0, 1) := by decide +kernel
theorem dX6_addBeast_1 : decode cX6_addBeast 1 = .ok (.getfield 48, 3) := by decide +kernel
theorem dX6_addBeast_4 : decode cX6_addBeast 4 = .ok (.bipush 8, 2) := by decide +kernel
theorem dX6_addBeast_6 : decode cX6_addBeast 6 = .ok (.if_icmp .ge 43, 3) := by decide +kernel
theorem dX6_addBeast_9 : decode cX6_addBeast 9 = .ok (.iload_n 1, 1) := by decide +kernel
theorem dX6_addBeast_10 : decode cX6_addBeast 10 = .ok (.iconst 1, 1) := by decide +kernel
theorem dX6_addBeast_11 : decode cX6_addBeast 11 = .ok (.bipush 9, 2) := by decide +kernel
theorem dX6_addBeast_13 : decode cX6_addBeast 13 = .ok (.invokestatic 68, 3) := by decide +kernel
theorem dX6_addBeast_16 : decode cX6_addBeast 16 = .ok (.ifCond .eq 33, 3) := by decide +kernel
theorem dX6_addBeast_19 : decode cX6_addBeast 19 = .ok (.iload_n 2, 1) := by decide +kernel
theorem dX6_addBeast_20 : decode cX6_addBeast 20 = .ok (.iconst 1, 1) := by decide +kernel
theorem dX6_addBeast_21 : decode cX6_addBeast 21 = .ok (.bipush 9, 2) := by decide +kernel
theorem dX6_addBeast_23 : decode cX6_addBeast 23 = .ok (.invokestatic 68, 3) := by decide +kernel
theorem dX6_addBeast_26 : decode cX6_addBeast 26 = .ok (.ifCond .eq 23, 3) := by decide +kernel
theorem dX6_addBeast_29 : decode cX6_addBeast 29 = .ok (.iload_n 3, 1) := by decide +kernel
theorem dX6_addBeast_30 : decode cX6_addBeast 30 = .ok (.iconst 0, 1) := by decide +kernel
theorem dX6_addBeast_31 : decode cX6_addBeast 31 = .ok (.iconst 3, 1) := by decide +kernel
theorem dX6_addBeast_32 : decode cX6_addBeast 32 = .ok (.invokestatic 68, 3) := by decide +kernel
theorem dX6_addBeast_35 : decode cX6_addBeast 35 = .ok (.ifCond .eq 14, 3) := by decide +kernel
theorem dX6_addBeast_38 : decode cX6_addBeast 38 = .ok (.iload 4, 2) := by decide +kernel
theorem dX6_addBeast_40 : decode cX6_addBeast 40 = .ok (.iconst 0, 1) := by decide +kernel
theorem dX6_addBeast_41 : decode cX6_addBeast 41 = .ok (.bipush 30, 2) := by decide +kernel
theorem dX6_addBeast_43 : decode cX6_addBeast 43 = .ok (.invokestatic 68, 3) := by decide +kernel
theorem dX6_addBeast_46 : decode cX6_addBeast 46 = .ok (.ifCond .ne 5, 3) := by decide +kernel
theorem dX6_addBeast_49 : decode cX6_addBeast 49 = .ok (.iconst 0, 1) := by decide +kernel
theorem dX6_addBeast_50 : decode cX6_addBeast 50 = .ok (.ireturn, 1) := by decide +kernel
theorem dX6_addBeast_51 : decode cX6_addBeast 51 = .ok (.aload_n 0, 1) := by decide +kernel
theorem dX6_addBeast_52 : decode cX6_addBeast 52 = .ok (.getfield 9, 3) := by decide +kernel
theorem dX6_addBeast_55 : decode cX6_addBeast 55 = .ok (.aload_n 0, 1) := by decide +kernel
theorem dX6_addBeast_56 : decode cX6_addBeast 56 = .ok (.getfield 48, 3) := by decide +kernel
theorem dX6_addBeast_59 : decode cX6_addBeast 59 = .ok (.iload_n 1, 1) := by decide +kernel
theorem dX6_addBeast_60 : decode cX6_addBeast 60 = .ok (.iastore, 1) := by decide +kernel
theorem dX6_addBeast_61 : decode cX6_addBeast 61 = .ok (.aload_n 0, 1) := by decide +kernel
theorem dX6_addBeast_62 : decode cX6_addBeast 62 = .ok (.getfield 15, 3) := by decide +kernel
theorem dX6_addBeast_65 : decode cX6_addBeast 65 = .ok (.aload_n 0, 1) := by decide +kernel
theorem dX6_addBeast_66 : decode cX6_addBeast 66 = .ok (.getfield 48, 3) := by decide +kernel
theorem dX6_addBeast_69 : decode cX6_addBeast 69 = .ok (.iload_n 2, 1) := by decide +kernel
theorem dX6_addBeast_70 : decode cX6_addBeast 70 = .ok (.iastore, 1) := by decide +kernel
theorem dX6_addBeast_71 : decode cX6_addBeast 71 = .ok (.aload_n 0, 1) := by decide +kernel
theorem dX6_addBeast_72 : decode cX6_addBeast 72 = .ok (.getfield 18, 3) := by decide +kernel
theorem dX6_addBeast_75 : decode cX6_addBeast 75 = .ok (.aload_n 0, 1) := by decide +kernel
theorem dX6_addBeast_76 : decode cX6_addBeast 76 = .ok (.getfield 48, 3) := by decide +kernel
theorem dX6_addBeast_79 : decode cX6_addBeast 79 = .ok (.iload_n 3, 1) := by decide +kernel
theorem dX6_addBeast_80 : decode cX6_addBeast 80 = .ok (.iastore, 1) := by decide +kernel
theorem dX6_addBeast_81 : decode cX6_addBeast 81 = .ok (.aload_n 0, 1) := by decide +kernel
theorem dX6_addBeast_82 : decode cX6_addBeast 82 = .ok (.getfield 21, 3) := by decide +kernel
theorem dX6_addBeast_85 : decode cX6_addBeast 85 = .ok (.aload_n 0, 1) := by decide +kernel
theorem dX6_addBeast_86 : decode cX6_addBeast 86 = .ok (.getfield 48, 3) := by decide +kernel
theorem dX6_addBeast_89 : decode cX6_addBeast 89 = .ok (.iload 4, 2) := by decide +kernel
theorem dX6_addBeast_91 : decode cX6_addBeast 91 = .ok (.iastore, 1) := by decide +kernel
theorem dX6_addBeast_92 : decode cX6_addBeast 92 = .ok (.aload_n 0, 1) := by decide +kernel
theorem dX6_addBeast_93 : decode cX6_addBeast 93 = .ok (.getfield 24, 3) := by decide +kernel
theorem dX6_addBeast_96 : decode cX6_addBeast 96 = .ok (.aload_n 0, 1) := by decide +kernel
theorem dX6_addBeast_97 : decode cX6_addBeast 97 = .ok (.getfield 48, 3) := by decide +kernel
theorem dX6_addBeast_100 : decode cX6_addBeast 100 = .ok (.bipush (-4), 2) := by decide +kernel
theorem dX6_addBeast_102 : decode cX6_addBeast 102 = .ok (.iastore, 1) := by decide +kernel
theorem dX6_addBeast_103 : decode cX6_addBeast 103 = .ok (.aload_n 0, 1) := by decide +kernel
theorem dX6_addBeast_104 : decode cX6_addBeast 104 = .ok (.getfield 27, 3) := by decide +kernel
theorem dX6_addBeast_107 : decode cX6_addBeast 107 = .ok (.aload_n 0, 1) := by decide +kernel
theorem dX6_addBeast_108 : decode cX6_addBeast 108 = .ok (.getfield 48, 3) := by decide +kernel
theorem dX6_addBeast_111 : decode cX6_addBeast 111 = .ok (.bipush (-4), 2) := by decide +kernel
theorem dX6_addBeast_113 : decode cX6_addBeast 113 = .ok (.iastore, 1) := by decide +kernel
theorem dX6_addBeast_114 : decode cX6_addBeast 114 = .ok (.aload_n 0, 1) := by decide +kernel
theorem dX6_addBeast_115 : decode cX6_addBeast 115 = .ok (.getfield 30, 3) := by decide +kernel
theorem dX6_addBeast_118 : decode cX6_addBeast 118 = .ok (.aload_n 0, 1) := by decide +kernel
theorem dX6_addBeast_119 : decode cX6_addBeast 119 = .ok (.getfield 48, 3) := by decide +kernel
theorem dX6_addBeast_122 : decode cX6_addBeast 122 = .ok (.bipush (-4), 2) := by decide +kernel
theorem dX6_addBeast_124 : decode cX6_addBeast 124 = .ok (.iastore, 1) := by decide +kernel
theorem dX6_addBeast_125 : decode cX6_addBeast 125 = .ok (.aload_n 0, 1) := by decide +kernel
theorem dX6_addBeast_126 : decode cX6_addBeast 126 = .ok (.getfield 33, 3) := by decide +kernel
theorem dX6_addBeast_129 : decode cX6_addBeast 129 = .ok (.aload_n 0, 1) := by decide +kernel
theorem dX6_addBeast_130 : decode cX6_addBeast 130 = .ok (.getfield 48, 3) := by decide +kernel
theorem dX6_addBeast_133 : decode cX6_addBeast 133 = .ok (.bipush (-4), 2) := by decide +kernel
theorem dX6_addBeast_135 : decode cX6_addBeast 135 = .ok (.iastore, 1) := by decide +kernel
theorem dX6_addBeast_136 : decode cX6_addBeast 136 = .ok (.aload_n 0, 1) := by decide +kernel
theorem dX6_addBeast_137 : decode cX6_addBeast 137 = .ok (.getfield 36, 3) := by decide +kernel
theorem dX6_addBeast_140 : decode cX6_addBeast 140 = .ok (.aload_n 0, 1) := by decide +kernel
theorem dX6_addBeast_141 : decode cX6_addBeast 141 = .ok (.getfield 48, 3) := by decide +kernel
theorem dX6_addBeast_144 : decode cX6_addBeast 144 = .ok (.iconst 0, 1) := by decide +kernel
theorem dX6_addBeast_145 : decode cX6_addBeast 145 = .ok (.iastore, 1) := by decide +kernel
theorem dX6_addBeast_146 : decode cX6_addBeast 146 = .ok (.aload_n 0, 1) := by decide +kernel
theorem dX6_addBeast_147 : decode cX6_addBeast 147 = .ok (.dup, 1) := by decide +kernel
theorem dX6_addBeast_148 : decode cX6_addBeast 148 = .ok (.getfield 48, 3) := by decide +kernel
theorem dX6_addBeast_151 : decode cX6_addBeast 151 = .ok (.iconst 1, 1) := by decide +kernel
theorem dX6_addBeast_152 : decode cX6_addBeast 152 = .ok (.iadd, 1) := by decide +kernel
theorem dX6_addBeast_153 : decode cX6_addBeast 153 = .ok (.putfield 48, 3) := by decide +kernel
theorem dX6_addBeast_156 : decode cX6_addBeast 156 = .ok (.iconst 1, 1) := by decide +kernel
theorem dX6_addBeast_157 : decode cX6_addBeast 157 = .ok (.ireturn, 1) := by decide +kernel
theorem dX6_setWidth_0 : decode cX6_setWidth 0 = .ok (.iload_n 1, 1) := by decide +kernel
theorem dX6_setWidth_1 : decode cX6_setWidth 1 = .ok (.iconst 1, 1) := by decide +kernel
theorem dX6_setWidth_2 : decode cX6_setWidth 2 = .ok (.bipush 99, 2) := by decide +kernel
theorem dX6_setWidth_4 : decode cX6_setWidth 4 = .ok (.invokestatic 68, 3) := by decide +kernel
theorem dX6_setWidth_7 : decode cX6_setWidth 7 = .ok (.ifCond .ne 5, 3) := by decide +kernel
theorem dX6_setWidth_10 : decode cX6_setWidth 10 = .ok (.iconst 0, 1) := by decide +kernel
theorem dX6_setWidth_11 : decode cX6_setWidth 11 = .ok (.ireturn, 1) := by decide +kernel
theorem dX6_setWidth_12 : decode cX6_setWidth 12 = .ok (.aload_n 0, 1) := by decide +kernel
theorem dX6_setWidth_13 : decode cX6_setWidth 13 = .ok (.iload_n 1, 1) := by decide +kernel
theorem dX6_setWidth_14 : decode cX6_setWidth 14 = .ok (.putfield 52, 3) := by decide +kernel
theorem dX6_setWidth_17 : decode cX6_setWidth 17 = .ok (.iconst 1, 1) := by decide +kernel
theorem dX6_setWidth_18 : decode cX6_setWidth 18 = .ok (.ireturn, 1) := by decide +kernel
theorem dX6_addCurrent_0 : decode cX6_addCurrent 0 = .ok (.aload_n 0, 1) := by decide +kernel
theorem dX6_addCurrent_1 : decode cX6_addCurrent 1 = .ok (.getfield 55, 3) := by decide +kernel
theorem dX6_addCurrent_4 : decode cX6_addCurrent 4 = .ok (.iconst 4, 1) := by decide +kernel
theorem dX6_addCurrent_5 : decode cX6_addCurrent 5 = .ok (.if_icmp .ge 22, 3) := by decide +kernel
theorem dX6_addCurrent_8 : decode cX6_addCurrent 8 = .ok (.iload_n 1, 1) := by decide +kernel
theorem dX6_addCurrent_9 : decode cX6_addCurrent 9 = .ok (.iconst 0, 1) := by decide +kernel
theorem dX6_addCurrent_10 : decode cX6_addCurrent 10 = .ok (.bipush 99, 2) := by decide +kernel
theorem dX6_addCurrent_12 : decode cX6_addCurrent 12 = .ok (.invokestatic 68, 3) := by decide +kernel
theorem dX6_addCurrent_15 : decode cX6_addCurrent 15 = .ok (.ifCond .eq 12, 3) := by decide +kernel
theorem dX6_addCurrent_18 : decode cX6_addCurrent 18 = .ok (.iload_n 2, 1) := by decide +kernel
theorem dX6_addCurrent_19 : decode cX6_addCurrent 19 = .ok (.iconst 0, 1) := by decide +kernel
theorem dX6_addCurrent_20 : decode cX6_addCurrent 20 = .ok (.iconst 5, 1) := by decide +kernel
theorem dX6_addCurrent_21 : decode cX6_addCurrent 21 = .ok (.invokestatic 68, 3) := by decide +kernel
theorem dX6_addCurrent_24 : decode cX6_addCurrent 24 = .ok (.ifCond .ne 5, 3) := by decide +kernel
theorem dX6_addCurrent_27 : decode cX6_addCurrent 27 = .ok (.iconst 0, 1) := by decide +kernel
theorem dX6_addCurrent_28 : decode cX6_addCurrent 28 = .ok (.ireturn, 1) := by decide +kernel
theorem dX6_addCurrent_29 : decode cX6_addCurrent 29 = .ok (.aload_n 0, 1) := by decide +kernel
theorem dX6_addCurrent_30 : decode cX6_addCurrent 30 = .ok (.getfield 39, 3) := by decide +kernel
theorem dX6_addCurrent_33 : decode cX6_addCurrent 33 = .ok (.aload_n 0, 1) := by decide +kernel
theorem dX6_addCurrent_34 : decode cX6_addCurrent 34 = .ok (.getfield 55, 3) := by decide +kernel
theorem dX6_addCurrent_37 : decode cX6_addCurrent 37 = .ok (.iload_n 1, 1) := by decide +kernel
theorem dX6_addCurrent_38 : decode cX6_addCurrent 38 = .ok (.iastore, 1) := by decide +kernel
theorem dX6_addCurrent_39 : decode cX6_addCurrent 39 = .ok (.aload_n 0, 1) := by decide +kernel
theorem dX6_addCurrent_40 : decode cX6_addCurrent 40 = .ok (.getfield 42, 3) := by decide +kernel
theorem dX6_addCurrent_43 : decode cX6_addCurrent 43 = .ok (.aload_n 0, 1) := by decide +kernel
theorem dX6_addCurrent_44 : decode cX6_addCurrent 44 = .ok (.getfield 55, 3) := by decide +kernel
theorem dX6_addCurrent_47 : decode cX6_addCurrent 47 = .ok (.iload_n 2, 1) := by decide +kernel
theorem dX6_addCurrent_48 : decode cX6_addCurrent 48 = .ok (.iastore, 1) := by decide +kernel
theorem dX6_addCurrent_49 : decode cX6_addCurrent 49 = .ok (.aload_n 0, 1) := by decide +kernel
theorem dX6_addCurrent_50 : decode cX6_addCurrent 50 = .ok (.dup, 1) := by decide +kernel
theorem dX6_addCurrent_51 : decode cX6_addCurrent 51 = .ok (.getfield 55, 3) := by decide +kernel
theorem dX6_addCurrent_54 : decode cX6_addCurrent 54 = .ok (.iconst 1, 1) := by decide +kernel
theorem dX6_addCurrent_55 : decode cX6_addCurrent 55 = .ok (.iadd, 1) := by decide +kernel
theorem dX6_addCurrent_56 : decode cX6_addCurrent 56 = .ok (.putfield 55, 3) := by decide +kernel
theorem dX6_addCurrent_59 : decode cX6_addCurrent 59 = .ok (.iconst 1, 1) := by decide +kernel
theorem dX6_addCurrent_60 : decode cX6_addCurrent 60 = .ok (.ireturn, 1) := by decide +kernel
theorem dX6_setCarrier_0 : decode cX6_setCarrier 0 = .ok (.aload_n 0, 1) := by decide +kernel
theorem dX6_setCarrier_1 : decode cX6_setCarrier 1 = .ok (.iload_n 1, 1) := by decide +kernel
theorem dX6_setCarrier_2 : decode cX6_setCarrier 2 = .ok (.invokevirtual 72, 3) := by decide +kernel
theorem dX6_setCarrier_5 : decode cX6_setCarrier 5 = .ok (.ifCond .eq 16, 3) := by decide +kernel
theorem dX6_setCarrier_8 : decode cX6_setCarrier 8 = .ok (.aload_n 0, 1) := by decide +kernel
theorem dX6_setCarrier_9 : decode cX6_setCarrier 9 = .ok (.iload_n 2, 1) := by decide +kernel
theorem dX6_setCarrier_10 : decode cX6_setCarrier 10 = .ok (.invokevirtual 72, 3) := by decide +kernel
theorem dX6_setCarrier_13 : decode cX6_setCarrier 13 = .ok (.ifCond .eq 8, 3) := by decide +kernel
theorem dX6_setCarrier_16 : decode cX6_setCarrier 16 = .ok (.iload_n 1, 1) := by decide +kernel
theorem dX6_setCarrier_17 : decode cX6_setCarrier 17 = .ok (.iload_n 2, 1) := by decide +kernel
theorem dX6_setCarrier_18 : decode cX6_setCarrier 18 = .ok (.if_icmp .ne 5, 3) := by decide +kernel
theorem dX6_setCarrier_21 : decode cX6_setCarrier 21 = .ok (.iconst 0, 1) := by decide +kernel
theorem dX6_setCarrier_22 : decode cX6_setCarrier 22 = .ok (.ireturn, 1) := by decide +kernel
theorem dX6_setCarrier_23 : decode cX6_setCarrier 23 = .ok (.aload_n 0, 1) := by decide +kernel
theorem dX6_setCarrier_24 : decode cX6_setCarrier 24 = .ok (.getfield 24, 3) := by decide +kernel
theorem dX6_setCarrier_27 : decode cX6_setCarrier 27 = .ok (.iload_n 1, 1) := by decide +kernel
theorem dX6_setCarrier_28 : decode cX6_setCarrier 28 = .ok (.iload_n 2, 1) := by decide +kernel
theorem dX6_setCarrier_29 : decode cX6_setCarrier 29 = .ok (.iastore, 1) := by decide +kernel
theorem dX6_setCarrier_30 : decode cX6_setCarrier 30 = .ok (.iconst 1, 1) := by decide +kernel
theorem dX6_setCarrier_31 : decode cX6_setCarrier 31 = .ok (.ireturn, 1) := by decide +kernel
theorem dX6_addRaft_0 : decode cX6_addRaft 0 = .ok (.aload_n 0, 1) := by decide +kernel
theorem dX6_addRaft_1 : decode cX6_addRaft 1 = .ok (.getfield 58, 3) := by decide +kernel
theorem dX6_addRaft_4 : decode cX6_addRaft 4 = .ok (.iconst 2, 1) := by decide +kernel
theorem dX6_addRaft_5 : decode cX6_addRaft 5 = .ok (.if_icmp .ge 42, 3) := by decide +kernel
theorem dX6_addRaft_8 : decode cX6_addRaft 8 = .ok (.aload_n 0, 1) := by decide +kernel
theorem dX6_addRaft_9 : decode cX6_addRaft 9 = .ok (.iload_n 1, 1) := by decide +kernel
theorem dX6_addRaft_10 : decode cX6_addRaft 10 = .ok (.invokevirtual 72, 3) := by decide +kernel
theorem dX6_addRaft_13 : decode cX6_addRaft 13 = .ok (.ifCond .eq 34, 3) := by decide +kernel
theorem dX6_addRaft_16 : decode cX6_addRaft 16 = .ok (.aload_n 0, 1) := by decide +kernel
theorem dX6_addRaft_17 : decode cX6_addRaft 17 = .ok (.iload_n 2, 1) := by decide +kernel
theorem dX6_addRaft_18 : decode cX6_addRaft 18 = .ok (.invokevirtual 72, 3) := by decide +kernel
theorem dX6_addRaft_21 : decode cX6_addRaft 21 = .ok (.ifCond .eq 26, 3) := by decide +kernel
theorem dX6_addRaft_24 : decode cX6_addRaft 24 = .ok (.aload_n 0, 1) := by decide +kernel
theorem dX6_addRaft_25 : decode cX6_addRaft 25 = .ok (.iload_n 3, 1) := by decide +kernel
theorem dX6_addRaft_26 : decode cX6_addRaft 26 = .ok (.invokevirtual 72, 3) := by decide +kernel
theorem dX6_addRaft_29 : decode cX6_addRaft 29 = .ok (.ifCond .eq 18, 3) := by decide +kernel
theorem dX6_addRaft_32 : decode cX6_addRaft 32 = .ok (.iload_n 1, 1) := by decide +kernel
theorem dX6_addRaft_33 : decode cX6_addRaft 33 = .ok (.iload_n 2, 1) := by decide +kernel
theorem dX6_addRaft_34 : decode cX6_addRaft 34 = .ok (.if_icmp .eq 13, 3) := by decide +kernel
theorem dX6_addRaft_37 : decode cX6_addRaft 37 = .ok (.iload_n 1, 1) := by decide +kernel
theorem dX6_addRaft_38 : decode cX6_addRaft 38 = .ok (.iload_n 3, 1) := by decide +kernel
theorem dX6_addRaft_39 : decode cX6_addRaft 39 = .ok (.if_icmp .eq 8, 3) := by decide +kernel
theorem dX6_addRaft_42 : decode cX6_addRaft 42 = .ok (.iload_n 2, 1) := by decide +kernel
theorem dX6_addRaft_43 : decode cX6_addRaft 43 = .ok (.iload_n 3, 1) := by decide +kernel
theorem dX6_addRaft_44 : decode cX6_addRaft 44 = .ok (.if_icmp .ne 5, 3) := by decide +kernel
theorem dX6_addRaft_47 : decode cX6_addRaft 47 = .ok (.iconst 0, 1) := by decide +kernel
theorem dX6_addRaft_48 : decode cX6_addRaft 48 = .ok (.ireturn, 1) := by decide +kernel
theorem dX6_addRaft_49 : decode cX6_addRaft 49 = .ok (.aload_n 0, 1) := by decide +kernel
theorem dX6_addRaft_50 : decode cX6_addRaft 50 = .ok (.iload_n 1, 1) := by decide +kernel
theorem dX6_addRaft_51 : decode cX6_addRaft 51 = .ok (.invokevirtual 76, 3) := by decide +kernel
theorem dX6_addRaft_54 : decode cX6_addRaft 54 = .ok (.aload_n 0, 1) := by decide +kernel
theorem dX6_addRaft_55 : decode cX6_addRaft 55 = .ok (.iload_n 2, 1) := by decide +kernel
theorem dX6_addRaft_56 : decode cX6_addRaft 56 = .ok (.invokevirtual 76, 3) := by decide +kernel
theorem dX6_addRaft_59 : decode cX6_addRaft 59 = .ok (.aload_n 0, 1) := by decide +kernel
theorem dX6_addRaft_60 : decode cX6_addRaft 60 = .ok (.iload_n 3, 1) := by decide +kernel
theorem dX6_addRaft_61 : decode cX6_addRaft 61 = .ok (.invokevirtual 76, 3) := by decide +kernel
theorem dX6_addRaft_64 : decode cX6_addRaft 64 = .ok (.aload_n 0, 1) := by decide +kernel
theorem dX6_addRaft_65 : decode cX6_addRaft 65 = .ok (.dup, 1) := by decide +kernel
theorem dX6_addRaft_66 : decode cX6_addRaft 66 = .ok (.getfield 58, 3) := by decide +kernel
theorem dX6_addRaft_69 : decode cX6_addRaft 69 = .ok (.iconst 1, 1) := by decide +kernel
theorem dX6_addRaft_70 : decode cX6_addRaft 70 = .ok (.iadd, 1) := by decide +kernel
theorem dX6_addRaft_71 : decode cX6_addRaft 71 = .ok (.putfield 58, 3) := by decide +kernel
theorem dX6_addRaft_74 : decode cX6_addRaft 74 = .ok (.iconst 1, 1) := by decide +kernel
theorem dX6_addRaft_75 : decode cX6_addRaft 75 = .ok (.ireturn, 1) := by decide +kernel
theorem dX6_putOnRaft_0 : decode cX6_putOnRaft 0 = .ok (.aload_n 0, 1) := by decide +kernel
theorem dX6_putOnRaft_1 : decode cX6_putOnRaft 1 = .ok (.getfield 27, 3) := by decide +kernel
theorem dX6_putOnRaft_4 : decode cX6_putOnRaft 4 = .ok (.iload_n 1, 1) := by decide +kernel
theorem dX6_putOnRaft_5 : decode cX6_putOnRaft 5 = .ok (.iaload, 1) := by decide +kernel
theorem dX6_putOnRaft_6 : decode cX6_putOnRaft 6 = .ok (.bipush (-4), 2) := by decide +kernel
theorem dX6_putOnRaft_8 : decode cX6_putOnRaft 8 = .ok (.if_icmp .eq 8, 3) := by decide +kernel
theorem dX6_putOnRaft_11 : decode cX6_putOnRaft 11 = .ok (.aload_n 0, 1) := by decide +kernel
theorem dX6_putOnRaft_12 : decode cX6_putOnRaft 12 = .ok (.iconst 1, 1) := by decide +kernel
theorem dX6_putOnRaft_13 : decode cX6_putOnRaft 13 = .ok (.putfield 64, 3) := by decide +kernel
theorem dX6_putOnRaft_16 : decode cX6_putOnRaft 16 = .ok (.aload_n 0, 1) := by decide +kernel
theorem dX6_putOnRaft_17 : decode cX6_putOnRaft 17 = .ok (.getfield 27, 3) := by decide +kernel
theorem dX6_putOnRaft_20 : decode cX6_putOnRaft 20 = .ok (.iload_n 1, 1) := by decide +kernel
theorem dX6_putOnRaft_21 : decode cX6_putOnRaft 21 = .ok (.aload_n 0, 1) := by decide +kernel
theorem dX6_putOnRaft_22 : decode cX6_putOnRaft 22 = .ok (.getfield 58, 3) := by decide +kernel
theorem dX6_putOnRaft_25 : decode cX6_putOnRaft 25 = .ok (.iastore, 1) := by decide +kernel
theorem dX6_putOnRaft_26 : decode cX6_putOnRaft 26 = .ok (.return_, 1) := by decide +kernel
theorem dX6_addVoice_0 : decode cX6_addVoice 0 = .ok (.aload_n 0, 1) := by decide +kernel
theorem dX6_addVoice_1 : decode cX6_addVoice 1 = .ok (.iload_n 1, 1) := by decide +kernel
theorem dX6_addVoice_2 : decode cX6_addVoice 2 = .ok (.invokevirtual 72, 3) := by decide +kernel
theorem dX6_addVoice_5 : decode cX6_addVoice 5 = .ok (.ifCond .ne 5, 3) := by decide +kernel
theorem dX6_addVoice_8 : decode cX6_addVoice 8 = .ok (.iconst 0, 1) := by decide +kernel
theorem dX6_addVoice_9 : decode cX6_addVoice 9 = .ok (.ireturn, 1) := by decide +kernel
theorem dX6_addVoice_10 : decode cX6_addVoice 10 = .ok (.aload_n 0, 1) := by decide +kernel
theorem dX6_addVoice_11 : decode cX6_addVoice 11 = .ok (.getfield 30, 3) := by decide +kernel
theorem dX6_addVoice_14 : decode cX6_addVoice 14 = .ok (.iload_n 1, 1) := by decide +kernel
theorem dX6_addVoice_15 : decode cX6_addVoice 15 = .ok (.iaload, 1) := by decide +kernel
theorem dX6_addVoice_16 : decode cX6_addVoice 16 = .ok (.bipush (-4), 2) := by decide +kernel
theorem dX6_addVoice_18 : decode cX6_addVoice 18 = .ok (.if_icmp .ne 23, 3) := by decide +kernel
theorem dX6_addVoice_21 : decode cX6_addVoice 21 = .ok (.aload_n 0, 1) := by decide +kernel
theorem dX6_addVoice_22 : decode cX6_addVoice 22 = .ok (.getfield 30, 3) := by decide +kernel
theorem dX6_addVoice_25 : decode cX6_addVoice 25 = .ok (.iload_n 1, 1) := by decide +kernel
theorem dX6_addVoice_26 : decode cX6_addVoice 26 = .ok (.aload_n 0, 1) := by decide +kernel
theorem dX6_addVoice_27 : decode cX6_addVoice 27 = .ok (.getfield 61, 3) := by decide +kernel
theorem dX6_addVoice_30 : decode cX6_addVoice 30 = .ok (.iastore, 1) := by decide +kernel
theorem dX6_addVoice_31 : decode cX6_addVoice 31 = .ok (.aload_n 0, 1) := by decide +kernel
theorem dX6_addVoice_32 : decode cX6_addVoice 32 = .ok (.dup, 1) := by decide +kernel
theorem dX6_addVoice_33 : decode cX6_addVoice 33 = .ok (.getfield 61, 3) := by decide +kernel
theorem dX6_addVoice_36 : decode cX6_addVoice 36 = .ok (.iconst 1, 1) := by decide +kernel
theorem dX6_addVoice_37 : decode cX6_addVoice 37 = .ok (.iadd, 1) := by decide +kernel
theorem dX6_addVoice_38 : decode cX6_addVoice 38 = .ok (.putfield 61, 3) := by decide +kernel
theorem dX6_addVoice_41 : decode cX6_addVoice 41 = .ok (.iconst 1, 1) := by decide +kernel
theorem dX6_addVoice_42 : decode cX6_addVoice 42 = .ok (.ireturn, 1) := by decide +kernel
theorem dX6_setWant_0 : decode cX6_setWant 0 = .ok (.aload_n 0, 1) := by decide +kernel
theorem dX6_setWant_1 : decode cX6_setWant 1 = .ok (.iload_n 1, 1) := by decide +kernel
theorem dX6_setWant_2 : decode cX6_setWant 2 = .ok (.invokevirtual 72, 3) := by decide +kernel
theorem dX6_setWant_5 : decode cX6_setWant 5 = .ok (.ifCond .eq 13, 3) := by decide +kernel
theorem dX6_setWant_8 : decode cX6_setWant 8 = .ok (.iload_n 2, 1) := by decide +kernel
theorem dX6_setWant_9 : decode cX6_setWant 9 = .ok (.iconst 1, 1) := by decide +kernel
theorem dX6_setWant_10 : decode cX6_setWant 10 = .ok (.bipush 8, 2) := by decide +kernel
theorem dX6_setWant_12 : decode cX6_setWant 12 = .ok (.invokestatic 68, 3) := by decide +kernel
theorem dX6_setWant_15 : decode cX6_setWant 15 = .ok (.ifCond .ne 5, 3) := by decide +kernel
theorem dX6_setWant_18 : decode cX6_setWant 18 = .ok (.iconst 0, 1) := by decide +kernel
theorem dX6_setWant_19 : decode cX6_setWant 19 = .ok (.ireturn, 1) := by decide +kernel
theorem dX6_setWant_20 : decode cX6_setWant 20 = .ok (.aload_n 0, 1) := by decide +kernel
theorem dX6_setWant_21 : decode cX6_setWant 21 = .ok (.getfield 33, 3) := by decide +kernel
theorem dX6_setWant_24 : decode cX6_setWant 24 = .ok (.iload_n 1, 1) := by decide +kernel
theorem dX6_setWant_25 : decode cX6_setWant 25 = .ok (.iload_n 2, 1) := by decide +kernel
theorem dX6_setWant_26 : decode cX6_setWant 26 = .ok (.iastore, 1) := by decide +kernel
theorem dX6_setWant_27 : decode cX6_setWant 27 = .ok (.iconst 1, 1) := by decide +kernel
theorem dX6_setWant_28 : decode cX6_setWant 28 = .ok (.ireturn, 1) := by decide +kernel
theorem dX6_setHarvest_0 : decode cX6_setHarvest 0 = .ok (.aload_n 0, 1) := by decide +kernel
theorem dX6_setHarvest_1 : decode cX6_setHarvest 1 = .ok (.iload_n 1, 1) := by decide +kernel
theorem dX6_setHarvest_2 : decode cX6_setHarvest 2 = .ok (.invokevirtual 72, 3) := by decide +kernel
theorem dX6_setHarvest_5 : decode cX6_setHarvest 5 = .ok (.ifCond .eq 13, 3) := by decide +kernel
theorem dX6_setHarvest_8 : decode cX6_setHarvest 8 = .ok (.iload_n 2, 1) := by decide +kernel
theorem dX6_setHarvest_9 : decode cX6_setHarvest 9 = .ok (.iconst 0, 1) := by decide +kernel
theorem dX6_setHarvest_10 : decode cX6_setHarvest 10 = .ok (.bipush 99, 2) := by decide +kernel
theorem dX6_setHarvest_12 : decode cX6_setHarvest 12 = .ok (.invokestatic 68, 3) := by decide +kernel
theorem dX6_setHarvest_15 : decode cX6_setHarvest 15 = .ok (.ifCond .ne 5, 3) := by decide +kernel
theorem dX6_setHarvest_18 : decode cX6_setHarvest 18 = .ok (.iconst 0, 1) := by decide +kernel
theorem dX6_setHarvest_19 : decode cX6_setHarvest 19 = .ok (.ireturn, 1) := by decide +kernel
theorem dX6_setHarvest_20 : decode cX6_setHarvest 20 = .ok (.aload_n 0, 1) := by decide +kernel
theorem dX6_setHarvest_21 : decode cX6_setHarvest 21 = .ok (.getfield 36, 3) := by decide +kernel
theorem dX6_setHarvest_24 : decode cX6_setHarvest 24 = .ok (.iload_n 1, 1) := by decide +kernel
theorem dX6_setHarvest_25 : decode cX6_setHarvest 25 = .ok (.iload_n 2, 1) := by decide +kernel
theorem dX6_setHarvest_26 : decode cX6_setHarvest 26 = .ok (.iastore, 1) := by decide +kernel
theorem dX6_setHarvest_27 : decode cX6_setHarvest 27 = .ok (.iconst 1, 1) := by decide +kernel
theorem dX6_setHarvest_28 : decode cX6_setHarvest 28 = .ok (.ireturn, 1) := by decide +kernel
theorem dX6_canBeLaid_0 : decode cX6_canBeLaid 0 = .ok (.aload_n 0, 1) := by decide +kernel
theorem dX6_canBeLaid_1 : decode cX6_canBeLaid 1 = .ok (.getfield 48, 3) := by decide +kernel
theorem dX6_canBeLaid_4 : decode cX6_canBeLaid 4 = .ok (.iconst 1, 1) := by decide +kernel
theorem dX6_canBeLaid_5 : decode cX6_canBeLaid 5 = .ok (.if_icmp .lt 10, 3) := by decide +kernel
theorem dX6_canBeLaid_8 : decode cX6_canBeLaid 8 = .ok (.aload_n 0, 1) := by decide +kernel
theorem dX6_canBeLaid_9 : decode cX6_canBeLaid 9 = .ok (.getfield 64, 3) := by decide +kernel
theorem dX6_canBeLaid_12 : decode cX6_canBeLaid 12 = .ok (.ifCond .eq 5, 3) := by decide +kernel
theorem dX6_canBeLaid_15 : decode cX6_canBeLaid 15 = .ok (.iconst 0, 1) := by decide +kernel
theorem dX6_canBeLaid_16 : decode cX6_canBeLaid 16 = .ok (.ireturn, 1) := by decide +kernel
theorem dX6_canBeLaid_17 : decode cX6_canBeLaid 17 = .ok (.iconst 0, 1) := by decide +kernel
theorem dX6_canBeLaid_18 : decode cX6_canBeLaid 18 = .ok (.istore_n 1, 1) := by decide +kernel
theorem dX6_canBeLaid_19 : decode cX6_canBeLaid 19 = .ok (.iload_n 1, 1) := by decide +kernel
theorem dX6_canBeLaid_20 : decode cX6_canBeLaid 20 = .ok (.aload_n 0, 1) := by decide +kernel
theorem dX6_canBeLaid_21 : decode cX6_canBeLaid 21 = .ok (.getfield 48, 3) := by decide +kernel
theorem dX6_canBeLaid_24 : decode cX6_canBeLaid 24 = .ok (.if_icmp .ge 54, 3) := by decide +kernel
theorem dX6_canBeLaid_27 : decode cX6_canBeLaid 27 = .ok (.aload_n 0, 1) := by decide +kernel
theorem dX6_canBeLaid_28 : decode cX6_canBeLaid 28 = .ok (.getfield 24, 3) := by decide +kernel
theorem dX6_canBeLaid_31 : decode cX6_canBeLaid 31 = .ok (.iload_n 1, 1) := by decide +kernel
theorem dX6_canBeLaid_32 : decode cX6_canBeLaid 32 = .ok (.iaload, 1) := by decide +kernel
theorem dX6_canBeLaid_33 : decode cX6_canBeLaid 33 = .ok (.istore_n 2, 1) := by decide +kernel
theorem dX6_canBeLaid_34 : decode cX6_canBeLaid 34 = .ok (.iload_n 2, 1) := by decide +kernel
theorem dX6_canBeLaid_35 : decode cX6_canBeLaid 35 = .ok (.bipush (-4), 2) := by decide +kernel
theorem dX6_canBeLaid_37 : decode cX6_canBeLaid 37 = .ok (.if_icmp .eq 35, 3) := by decide +kernel
theorem dX6_canBeLaid_40 : decode cX6_canBeLaid 40 = .ok (.aload_n 0, 1) := by decide +kernel
theorem dX6_canBeLaid_41 : decode cX6_canBeLaid 41 = .ok (.getfield 27, 3) := by decide +kernel
theorem dX6_canBeLaid_44 : decode cX6_canBeLaid 44 = .ok (.iload_n 1, 1) := by decide +kernel
theorem dX6_canBeLaid_45 : decode cX6_canBeLaid 45 = .ok (.iaload, 1) := by decide +kernel
theorem dX6_canBeLaid_46 : decode cX6_canBeLaid 46 = .ok (.bipush (-4), 2) := by decide +kernel
theorem dX6_canBeLaid_48 : decode cX6_canBeLaid 48 = .ok (.if_icmp .ne 22, 3) := by decide +kernel
theorem dX6_canBeLaid_51 : decode cX6_canBeLaid 51 = .ok (.aload_n 0, 1) := by decide +kernel
theorem dX6_canBeLaid_52 : decode cX6_canBeLaid 52 = .ok (.iload_n 2, 1) := by decide +kernel
theorem dX6_canBeLaid_53 : decode cX6_canBeLaid 53 = .ok (.invokevirtual 72, 3) := by decide +kernel
theorem dX6_canBeLaid_56 : decode cX6_canBeLaid 56 = .ok (.ifCond .eq 14, 3) := by decide +kernel
theorem dX6_canBeLaid_59 : decode cX6_canBeLaid 59 = .ok (.aload_n 0, 1) := by decide +kernel
theorem dX6_canBeLaid_60 : decode cX6_canBeLaid 60 = .ok (.getfield 24, 3) := by decide +kernel
theorem dX6_canBeLaid_63 : decode cX6_canBeLaid 63 = .ok (.iload_n 2, 1) := by decide +kernel
theorem dX6_canBeLaid_64 : decode cX6_canBeLaid 64 = .ok (.iaload, 1) := by decide +kernel
theorem dX6_canBeLaid_65 : decode cX6_canBeLaid 65 = .ok (.bipush (-4), 2) := by decide +kernel
theorem dX6_canBeLaid_67 : decode cX6_canBeLaid 67 = .ok (.if_icmp .eq 5, 3) := by decide +kernel
theorem dX6_canBeLaid_70 : decode cX6_canBeLaid 70 = .ok (.iconst 0, 1) := by decide +kernel
theorem dX6_canBeLaid_71 : decode cX6_canBeLaid 71 = .ok (.ireturn, 1) := by decide +kernel
theorem dX6_canBeLaid_72 : decode cX6_canBeLaid 72 = .ok (.iinc 1 1, 3) := by decide +kernel
theorem dX6_canBeLaid_75 : decode cX6_canBeLaid 75 = .ok (.goto (-56), 3) := by decide +kernel
theorem dX6_canBeLaid_78 : decode cX6_canBeLaid 78 = .ok (.iconst 1, 1) := by decide +kernel
theorem dX6_canBeLaid_79 : decode cX6_canBeLaid 79 = .ok (.ireturn, 1) := by decide +kernel
theorem dX6_settle_0 : decode cX6_settle 0 = .ok (.iconst 0, 1) := by decide +kernel
theorem dX6_settle_1 : decode cX6_settle 1 = .ok (.istore_n 1, 1) := by decide +kernel
theorem dX6_settle_2 : decode cX6_settle 2 = .ok (.iload_n 1, 1) := by decide +kernel
theorem dX6_settle_3 : decode cX6_settle 3 = .ok (.aload_n 0, 1) := by decide +kernel
theorem dX6_settle_4 : decode cX6_settle 4 = .ok (.getfield 48, 3) := by decide +kernel
theorem dX6_settle_7 : decode cX6_settle 7 = .ok (.if_icmp .ge 15, 3) := by decide +kernel
theorem dX6_settle_10 : decode cX6_settle 10 = .ok (.aload_n 0, 1) := by decide +kernel
theorem dX6_settle_11 : decode cX6_settle 11 = .ok (.iload_n 1, 1) := by decide +kernel
theorem dX6_settle_12 : decode cX6_settle 12 = .ok (.invokevirtual 80, 3) := by decide +kernel
theorem dX6_settle_15 : decode cX6_settle 15 = .ok (.pop, 1) := by decide +kernel
theorem dX6_settle_16 : decode cX6_settle 16 = .ok (.iinc 1 1, 3) := by decide +kernel
theorem dX6_settle_19 : decode cX6_settle 19 = .ok (.goto (-17), 3) := by decide +kernel
theorem dX6_settle_22 : decode cX6_settle 22 = .ok (.iconst 0, 1) := by decide +kernel
theorem dX6_settle_23 : decode cX6_settle 23 = .ok (.istore_n 1, 1) := by decide +kernel
theorem dX6_settle_24 : decode cX6_settle 24 = .ok (.iload_n 1, 1) := by decide +kernel
theorem dX6_settle_25 : decode cX6_settle 25 = .ok (.sipush 200, 3) := by decide +kernel
theorem dX6_settle_28 : decode cX6_settle 28 = .ok (.if_icmp .gt 20, 3) := by decide +kernel
theorem dX6_settle_31 : decode cX6_settle 31 = .ok (.aload_n 0, 1) := by decide +kernel
theorem dX6_settle_32 : decode cX6_settle 32 = .ok (.getfield 45, 3) := by decide +kernel
theorem dX6_settle_35 : decode cX6_settle 35 = .ok (.iload_n 1, 1) := by decide +kernel
theorem dX6_settle_36 : decode cX6_settle 36 = .ok (.aload_n 0, 1) := by decide +kernel
theorem dX6_settle_37 : decode cX6_settle 37 = .ok (.iload_n 1, 1) := by decide +kernel
theorem dX6_settle_38 : decode cX6_settle 38 = .ok (.invokevirtual 83, 3) := by decide +kernel
theorem dX6_settle_41 : decode cX6_settle 41 = .ok (.iastore, 1) := by decide +kernel
theorem dX6_settle_42 : decode cX6_settle 42 = .ok (.iinc 1 1, 3) := by decide +kernel
theorem dX6_settle_45 : decode cX6_settle 45 = .ok (.goto (-21), 3) := by decide +kernel
theorem dX6_settle_48 : decode cX6_settle 48 = .ok (.return_, 1) := by decide +kernel
theorem dX6_takenFrom_0 : decode cX6_takenFrom 0 = .ok (.iconst (-1), 1) := by decide +kernel
theorem dX6_takenFrom_1 : decode cX6_takenFrom 1 = .ok (.istore_n 2, 1) := by decide +kernel
theorem dX6_takenFrom_2 : decode cX6_takenFrom 2 = .ok (.iconst 0, 1) := by decide +kernel
theorem dX6_takenFrom_3 : decode cX6_takenFrom 3 = .ok (.istore_n 3, 1) := by decide +kernel
theorem dX6_takenFrom_4 : decode cX6_takenFrom 4 = .ok (.iconst 0, 1) := by decide +kernel
theorem dX6_takenFrom_5 : decode cX6_takenFrom 5 = .ok (.istore 4, 2) := by decide +kernel
theorem dX6_takenFrom_7 : decode cX6_takenFrom 7 = .ok (.iload 4, 2) := by decide +kernel
theorem dX6_takenFrom_9 : decode cX6_takenFrom 9 = .ok (.aload_n 0, 1) := by decide +kernel
theorem dX6_takenFrom_10 : decode cX6_takenFrom 10 = .ok (.getfield 55, 3) := by decide +kernel
theorem dX6_takenFrom_13 : decode cX6_takenFrom 13 = .ok (.if_icmp .ge 47, 3) := by decide +kernel
theorem dX6_takenFrom_16 : decode cX6_takenFrom 16 = .ok (.aload_n 0, 1) := by decide +kernel
theorem dX6_takenFrom_17 : decode cX6_takenFrom 17 = .ok (.getfield 39, 3) := by decide +kernel
theorem dX6_takenFrom_20 : decode cX6_takenFrom 20 = .ok (.iload 4, 2) := by decide +kernel
theorem dX6_takenFrom_22 : decode cX6_takenFrom 22 = .ok (.iaload, 1) := by decide +kernel
theorem dX6_takenFrom_23 : decode cX6_takenFrom 23 = .ok (.iload_n 1, 1) := by decide +kernel
theorem dX6_takenFrom_24 : decode cX6_takenFrom 24 = .ok (.if_icmp .gt 30, 3) := by decide +kernel
theorem dX6_takenFrom_27 : decode cX6_takenFrom 27 = .ok (.aload_n 0, 1) := by decide +kernel
theorem dX6_takenFrom_28 : decode cX6_takenFrom 28 = .ok (.getfield 39, 3) := by decide +kernel
theorem dX6_takenFrom_31 : decode cX6_takenFrom 31 = .ok (.iload 4, 2) := by decide +kernel
theorem dX6_takenFrom_33 : decode cX6_takenFrom 33 = .ok (.iaload, 1) := by decide +kernel
theorem dX6_takenFrom_34 : decode cX6_takenFrom 34 = .ok (.iload_n 2, 1) := by decide +kernel
theorem dX6_takenFrom_35 : decode cX6_takenFrom 35 = .ok (.if_icmp .lt 19, 3) := by decide +kernel
theorem dX6_takenFrom_38 : decode cX6_takenFrom 38 = .ok (.aload_n 0, 1) := by decide +kernel
theorem dX6_takenFrom_39 : decode cX6_takenFrom 39 = .ok (.getfield 39, 3) := by decide +kernel
theorem dX6_takenFrom_42 : decode cX6_takenFrom 42 = .ok (.iload 4, 2) := by decide +kernel
theorem dX6_takenFrom_44 : decode cX6_takenFrom 44 = .ok (.iaload, 1) := by decide +kernel
theorem dX6_takenFrom_45 : decode cX6_takenFrom 45 = .ok (.istore_n 2, 1) := by decide +kernel
theorem dX6_takenFrom_46 : decode cX6_takenFrom 46 = .ok (.aload_n 0, 1) := by decide +kernel
theorem dX6_takenFrom_47 : decode cX6_takenFrom 47 = .ok (.getfield 42, 3) := by decide +kernel
theorem dX6_takenFrom_50 : decode cX6_takenFrom 50 = .ok (.iload 4, 2) := by decide +kernel
theorem dX6_takenFrom_52 : decode cX6_takenFrom 52 = .ok (.iaload, 1) := by decide +kernel
theorem dX6_takenFrom_53 : decode cX6_takenFrom 53 = .ok (.istore_n 3, 1) := by decide +kernel
theorem dX6_takenFrom_54 : decode cX6_takenFrom 54 = .ok (.iinc 4 1, 3) := by decide +kernel
theorem dX6_takenFrom_57 : decode cX6_takenFrom 57 = .ok (.goto (-50), 3) := by decide +kernel
theorem dX6_takenFrom_60 : decode cX6_takenFrom 60 = .ok (.iload_n 3, 1) := by decide +kernel
theorem dX6_takenFrom_61 : decode cX6_takenFrom 61 = .ok (.ireturn, 1) := by decide +kernel
theorem dX6_isRidden_0 : decode cX6_isRidden 0 = .ok (.iconst 0, 1) := by decide +kernel
theorem dX6_isRidden_1 : decode cX6_isRidden 1 = .ok (.istore_n 2, 1) := by decide +kernel
theorem dX6_isRidden_2 : decode cX6_isRidden 2 = .ok (.iload_n 2, 1) := by decide +kernel
theorem dX6_isRidden_3 : decode cX6_isRidden 3 = .ok (.aload_n 0, 1) := by decide +kernel
theorem dX6_isRidden_4 : decode cX6_isRidden 4 = .ok (.getfield 48, 3) := by decide +kernel
theorem dX6_isRidden_7 : decode cX6_isRidden 7 = .ok (.if_icmp .ge 21, 3) := by decide +kernel
theorem dX6_isRidden_10 : decode cX6_isRidden 10 = .ok (.aload_n 0, 1) := by decide +kernel
theorem dX6_isRidden_11 : decode cX6_isRidden 11 = .ok (.getfield 24, 3) := by decide +kernel
theorem dX6_isRidden_14 : decode cX6_isRidden 14 = .ok (.iload_n 2, 1) := by decide +kernel
theorem dX6_isRidden_15 : decode cX6_isRidden 15 = .ok (.iaload, 1) := by decide +kernel
theorem dX6_isRidden_16 : decode cX6_isRidden 16 = .ok (.iload_n 1, 1) := by decide +kernel
theorem dX6_isRidden_17 : decode cX6_isRidden 17 = .ok (.if_icmp .ne 5, 3) := by decide +kernel
theorem dX6_isRidden_20 : decode cX6_isRidden 20 = .ok (.iconst 1, 1) := by decide +kernel
theorem dX6_isRidden_21 : decode cX6_isRidden 21 = .ok (.ireturn, 1) := by decide +kernel
theorem dX6_isRidden_22 : decode cX6_isRidden 22 = .ok (.iinc 2 1, 3) := by decide +kernel
theorem dX6_isRidden_25 : decode cX6_isRidden 25 = .ok (.goto (-23), 3) := by decide +kernel
theorem dX6_isRidden_28 : decode cX6_isRidden 28 = .ok (.iconst 0, 1) := by decide +kernel
theorem dX6_isRidden_29 : decode cX6_isRidden 29 = .ok (.ireturn, 1) := by decide +kernel
theorem dX6_riders_0 : decode cX6_riders 0 = .ok (.iconst 0, 1) := by decide +kernel
theorem dX6_riders_1 : decode cX6_riders 1 = .ok (.istore_n 1, 1) := by decide +kernel
theorem dX6_riders_2 : decode cX6_riders 2 = .ok (.iconst 0, 1) := by decide +kernel
theorem dX6_riders_3 : decode cX6_riders 3 = .ok (.istore_n 2, 1) := by decide +kernel
theorem dX6_riders_4 : decode cX6_riders 4 = .ok (.iload_n 2, 1) := by decide +kernel
theorem dX6_riders_5 : decode cX6_riders 5 = .ok (.aload_n 0, 1) := by decide +kernel
theorem dX6_riders_6 : decode cX6_riders 6 = .ok (.getfield 48, 3) := by decide +kernel
theorem dX6_riders_9 : decode cX6_riders 9 = .ok (.if_icmp .ge 28, 3) := by decide +kernel
theorem dX6_riders_12 : decode cX6_riders 12 = .ok (.iload_n 1, 1) := by decide +kernel
theorem dX6_riders_13 : decode cX6_riders 13 = .ok (.aload_n 0, 1) := by decide +kernel
theorem dX6_riders_14 : decode cX6_riders 14 = .ok (.getfield 24, 3) := by decide +kernel
theorem dX6_riders_17 : decode cX6_riders 17 = .ok (.iload_n 2, 1) := by decide +kernel
theorem dX6_riders_18 : decode cX6_riders 18 = .ok (.iaload, 1) := by decide +kernel
theorem dX6_riders_19 : decode cX6_riders 19 = .ok (.bipush (-4), 2) := by decide +kernel
theorem dX6_riders_21 : decode cX6_riders 21 = .ok (.if_icmp .ne 7, 3) := by decide +kernel
theorem dX6_riders_24 : decode cX6_riders 24 = .ok (.iconst 0, 1) := by decide +kernel
theorem dX6_riders_25 : decode cX6_riders 25 = .ok (.goto 4, 3) := by decide +kernel
theorem dX6_riders_28 : decode cX6_riders 28 = .ok (.iconst 1, 1) := by decide +kernel
theorem dX6_riders_29 : decode cX6_riders 29 = .ok (.iadd, 1) := by decide +kernel
theorem dX6_riders_30 : decode cX6_riders 30 = .ok (.istore_n 1, 1) := by decide +kernel
theorem dX6_riders_31 : decode cX6_riders 31 = .ok (.iinc 2 1, 3) := by decide +kernel
theorem dX6_riders_34 : decode cX6_riders 34 = .ok (.goto (-30), 3) := by decide +kernel
theorem dX6_riders_37 : decode cX6_riders 37 = .ok (.iload_n 1, 1) := by decide +kernel
theorem dX6_riders_38 : decode cX6_riders 38 = .ok (.ireturn, 1) := by decide +kernel
theorem dX7_init_0 : decode cX7_init 0 = .ok (.aload_n 0, 1) := by decide +kernel
theorem dX7_init_1 : decode cX7_init 1 = .ok (.invokespecial 3, 3) := by decide +kernel
theorem dX7_init_4 : decode cX7_init 4 = .ok (.aload_n 0, 1) := by decide +kernel
theorem dX7_init_5 : decode cX7_init 5 = .ok (.bipush 6, 2) := by decide +kernel
theorem dX7_init_7 : decode cX7_init 7 = .ok (.newarray .int, 2) := by decide +kernel
theorem dX7_init_9 : decode cX7_init 9 = .ok (.putfield 9, 3) := by decide +kernel
theorem dX7_init_12 : decode cX7_init 12 = .ok (.aload_n 0, 1) := by decide +kernel
theorem dX7_init_13 : decode cX7_init 13 = .ok (.bipush 6, 2) := by decide +kernel
theorem dX7_init_15 : decode cX7_init 15 = .ok (.newarray .int, 2) := by decide +kernel
theorem dX7_init_17 : decode cX7_init 17 = .ok (.putfield 15, 3) := by decide +kernel
theorem dX7_init_20 : decode cX7_init 20 = .ok (.aload_n 0, 1) := by decide +kernel
theorem dX7_init_21 : decode cX7_init 21 = .ok (.iconst 0, 1) := by decide +kernel
theorem dX7_init_22 : decode cX7_init 22 = .ok (.putfield 18, 3) := by decide +kernel
theorem dX7_init_25 : decode cX7_init 25 = .ok (.return_, 1) := by decide +kernel
theorem dX7_clear_0 : decode cX7_clear 0 = .ok (.aload_n 0, 1) := by decide +kernel
theorem dX7_clear_1 : decode cX7_clear 1 = .ok (.iconst 0, 1) := by decide +kernel
theorem dX7_clear_2 : decode cX7_clear 2 = .ok (.putfield 18, 3) := by decide +kernel
theorem dX7_clear_5 : decode cX7_clear 5 = .ok (.return_, 1) := by decide +kernel
theorem dX7_add_0 : decode cX7_add 0 = .ok (.aload_n 0, 1) := by decide +kernel
theorem dX7_add_1 : decode cX7_add 1 = .ok (.getfield 18, 3) := by decide +kernel
theorem dX7_add_4 : decode cX7_add 4 = .ok (.bipush 6, 2) := by decide +kernel
theorem dX7_add_6 : decode cX7_add 6 = .ok (.if_icmp .lt 5, 3) := by decide +kernel
theorem dX7_add_9 : decode cX7_add 9 = .ok (.iconst 0, 1) := by decide +kernel
theorem dX7_add_10 : decode cX7_add 10 = .ok (.ireturn, 1) := by decide +kernel
theorem dX7_add_11 : decode cX7_add 11 = .ok (.aload_n 0, 1) := by decide +kernel
theorem dX7_add_12 : decode cX7_add 12 = .ok (.getfield 9, 3) := by decide +kernel
theorem dX7_add_15 : decode cX7_add 15 = .ok (.aload_n 0, 1) := by decide +kernel
theorem dX7_add_16 : decode cX7_add 16 = .ok (.getfield 18, 3) := by decide +kernel
theorem dX7_add_19 : decode cX7_add 19 = .ok (.iload_n 1, 1) := by decide +kernel
theorem dX7_add_20 : decode cX7_add 20 = .ok (.iastore, 1) := by decide +kernel
theorem dX7_add_21 : decode cX7_add 21 = .ok (.aload_n 0, 1) := by decide +kernel
theorem dX7_add_22 : decode cX7_add 22 = .ok (.getfield 15, 3) := by decide +kernel
theorem dX7_add_25 : decode cX7_add 25 = .ok (.aload_n 0, 1) := by decide +kernel
theorem dX7_add_26 : decode cX7_add 26 = .ok (.getfield 18, 3) := by decide +kernel
theorem dX7_add_29 : decode cX7_add 29 = .ok (.iload_n 2, 1) := by decide +kernel
theorem dX7_add_30 : decode cX7_add 30 = .ok (.iastore, 1) := by decide +kernel
theorem dX7_add_31 : decode cX7_add 31 = .ok (.aload_n 0, 1) := by decide +kernel
theorem dX7_add_32 : decode cX7_add 32 = .ok (.dup, 1) := by decide +kernel
theorem dX7_add_33 : decode cX7_add 33 = .ok (.getfield 18, 3) := by decide +kernel
theorem dX7_add_36 : decode cX7_add 36 = .ok (.iconst 1, 1) := by decide +kernel
theorem dX7_add_37 : decode cX7_add 37 = .ok (.iadd, 1) := by decide +kernel
theorem dX7_add_38 : decode cX7_add 38 = .ok (.putfield 18, 3) := by decide +kernel
theorem dX7_add_41 : decode cX7_add 41 = .ok (.iconst 1, 1) := by decide +kernel
theorem dX7_add_42 : decode cX7_add 42 = .ok (.ireturn, 1) := by decide +kernel
theorem dX7_agreeWith_0 : decode cX7_agreeWith 0 = .ok (.iconst 0, 1) := by decide +kernel
theorem dX7_agreeWith_1 : decode cX7_agreeWith 1 = .ok (.istore_n 2, 1) := by decide +kernel
theorem dX7_agreeWith_2 : decode cX7_agreeWith 2 = .ok (.iload_n 2, 1) := by decide +kernel
theorem dX7_agreeWith_3 : decode cX7_agreeWith 3 = .ok (.aload_n 0, 1) := by decide +kernel
theorem dX7_agreeWith_4 : decode cX7_agreeWith 4 = .ok (.getfield 18, 3) := by decide +kernel
theorem dX7_agreeWith_7 : decode cX7_agreeWith 7 = .ok (.if_icmp .ge 31, 3) := by decide +kernel
theorem dX7_agreeWith_10 : decode cX7_agreeWith 10 = .ok (.aload_n 1, 1) := by decide +kernel
theorem dX7_agreeWith_11 : decode cX7_agreeWith 11 = .ok (.getfield 22, 3) := by decide +kernel
theorem dX7_agreeWith_14 : decode cX7_agreeWith 14 = .ok (.aload_n 0, 1) := by decide +kernel
theorem dX7_agreeWith_15 : decode cX7_agreeWith 15 = .ok (.getfield 9, 3) := by decide +kernel
theorem dX7_agreeWith_18 : decode cX7_agreeWith 18 = .ok (.iload_n 2, 1) := by decide +kernel
theorem dX7_agreeWith_19 : decode cX7_agreeWith 19 = .ok (.iaload, 1) := by decide +kernel
theorem dX7_agreeWith_20 : decode cX7_agreeWith 20 = .ok (.iaload, 1) := by decide +kernel
theorem dX7_agreeWith_21 : decode cX7_agreeWith 21 = .ok (.aload_n 0, 1) := by decide +kernel
theorem dX7_agreeWith_22 : decode cX7_agreeWith 22 = .ok (.getfield 15, 3) := by decide +kernel
theorem dX7_agreeWith_25 : decode cX7_agreeWith 25 = .ok (.iload_n 2, 1) := by decide +kernel
theorem dX7_agreeWith_26 : decode cX7_agreeWith 26 = .ok (.iaload, 1) := by decide +kernel
theorem dX7_agreeWith_27 : decode cX7_agreeWith 27 = .ok (.if_icmp .eq 5, 3) := by decide +kernel
theorem dX7_agreeWith_30 : decode cX7_agreeWith 30 = .ok (.iconst 0, 1) := by decide +kernel
theorem dX7_agreeWith_31 : decode cX7_agreeWith 31 = .ok (.ireturn, 1) := by decide +kernel
theorem dX7_agreeWith_32 : decode cX7_agreeWith 32 = .ok (.iinc 2 1, 3) := by decide +kernel
theorem dX7_agreeWith_35 : decode cX7_agreeWith 35 = .ok (.goto (-33), 3) := by decide +kernel
theorem dX7_agreeWith_38 : decode cX7_agreeWith 38 = .ok (.iconst 1, 1) := by decide +kernel
theorem dX7_agreeWith_39 : decode cX7_agreeWith 39 = .ok (.ireturn, 1) := by decide +kernel
theorem dX8_init_0 : decode cX8_init 0 = .ok (.aload_n 0, 1) := by decide +kernel
theorem dX8_init_1 : decode cX8_init 1 = .ok (.invokespecial 3, 3) := by decide +kernel
theorem dX8_init_4 : decode cX8_init 4 = .ok (.aload_n 0, 1) := by decide +kernel
theorem dX8_init_5 : decode cX8_init 5 = .ok (.sipush 200, 3) := by decide +kernel
theorem dX8_init_8 : decode cX8_init 8 = .ok (.newarray .char, 2) := by decide +kernel
theorem dX8_init_10 : decode cX8_init 10 = .ok (.putfield 9, 3) := by decide +kernel
theorem dX8_init_13 : decode cX8_init 13 = .ok (.aload_n 0, 1) := by decide +kernel
theorem dX8_init_14 : decode cX8_init 14 = .ok (.iconst 0, 1) := by decide +kernel
theorem dX8_init_15 : decode cX8_init 15 = .ok (.putfield 13, 3) := by decide +kernel
theorem dX8_init_18 : decode cX8_init 18 = .ok (.aload_n 0, 1) := by decide +kernel
theorem dX8_init_19 : decode cX8_init 19 = .ok (.new 17, 3) := by decide +kernel
theorem dX8_init_22 : decode cX8_init 22 = .ok (.dup, 1) := by decide +kernel
theorem dX8_init_23 : decode cX8_init 23 = .ok (.invokespecial 19, 3) := by decide +kernel
theorem dX8_init_26 : decode cX8_init 26 = .ok (.putfield 20, 3) := by decide +kernel
theorem dX8_init_29 : decode cX8_init 29 = .ok (.aload_n 0, 1) := by decide +kernel
theorem dX8_init_30 : decode cX8_init 30 = .ok (.invokestatic 24, 3) := by decide +kernel
theorem dX8_init_33 : decode cX8_init 33 = .ok (.putfield 28, 3) := by decide +kernel
theorem dX8_init_36 : decode cX8_init 36 = .ok (.aload_n 0, 1) := by decide +kernel
theorem dX8_init_37 : decode cX8_init 37 = .ok (.new 32, 3) := by decide +kernel
theorem dX8_init_40 : decode cX8_init 40 = .ok (.dup, 1) := by decide +kernel
theorem dX8_init_41 : decode cX8_init 41 = .ok (.invokespecial 34, 3) := by decide +kernel
theorem dX8_init_44 : decode cX8_init 44 = .ok (.putfield 35, 3) := by decide +kernel
theorem dX8_init_47 : decode cX8_init 47 = .ok (.aload_n 0, 1) := by decide +kernel
theorem dX8_init_48 : decode cX8_init 48 = .ok (.new 38, 3) := by decide +kernel
theorem dX8_init_51 : decode cX8_init 51 = .ok (.dup, 1) := by decide +kernel
theorem dX8_init_52 : decode cX8_init 52 = .ok (.aload_n 0, 1) := by decide +kernel
theorem dX8_init_53 : decode cX8_init 53 = .ok (.getfield 28, 3) := by decide +kernel
theorem dX8_init_56 : decode cX8_init 56 = .ok (.invokespecial 40, 3) := by decide +kernel
theorem dX8_init_59 : decode cX8_init 59 = .ok (.putfield 43, 3) := by decide +kernel
theorem dX8_init_62 : decode cX8_init 62 = .ok (.aload_n 0, 1) := by decide +kernel
theorem dX8_init_63 : decode cX8_init 63 = .ok (.new 47, 3) := by decide +kernel
theorem dX8_init_66 : decode cX8_init 66 = .ok (.dup, 1) := by decide +kernel
theorem dX8_init_67 : decode cX8_init 67 = .ok (.invokespecial 49, 3) := by decide +kernel
theorem dX8_init_70 : decode cX8_init 70 = .ok (.putfield 50, 3) := by decide +kernel
theorem dX8_init_73 : decode cX8_init 73 = .ok (.aload_n 0, 1) := by decide +kernel
theorem dX8_init_74 : decode cX8_init 74 = .ok (.new 54, 3) := by decide +kernel
theorem dX8_init_77 : decode cX8_init 77 = .ok (.dup, 1) := by decide +kernel
theorem dX8_init_78 : decode cX8_init 78 = .ok (.invokespecial 56, 3) := by decide +kernel
theorem dX8_init_81 : decode cX8_init 81 = .ok (.putfield 57, 3) := by decide +kernel
theorem dX8_init_84 : decode cX8_init 84 = .ok (.aload_n 0, 1) := by decide +kernel
theorem dX8_init_85 : decode cX8_init 85 = .ok (.new 61, 3) := by decide +kernel
theorem dX8_init_88 : decode cX8_init 88 = .ok (.dup, 1) := by decide +kernel
theorem dX8_init_89 : decode cX8_init 89 = .ok (.invokespecial 63, 3) := by decide +kernel
theorem dX8_init_92 : decode cX8_init 92 = .ok (.putfield 64, 3) := by decide +kernel
theorem dX8_init_95 : decode cX8_init 95 = .ok (.aload_n 0, 1) := by decide +kernel
theorem dX8_init_96 : decode cX8_init 96 = .ok (.new 68, 3) := by decide +kernel
theorem dX8_init_99 : decode cX8_init 99 = .ok (.dup, 1) := by decide +kernel
theorem dX8_init_100 : decode cX8_init 100 = .ok (.invokespecial 70, 3) := by decide +kernel
theorem dX8_init_103 : decode cX8_init 103 = .ok (.putfield 71, 3) := by decide +kernel
theorem dX8_init_106 : decode cX8_init 106 = .ok (.aload_n 0, 1) := by decide +kernel
theorem dX8_init_107 : decode cX8_init 107 = .ok (.new 75, 3) := by decide +kernel
theorem dX8_init_110 : decode cX8_init 110 = .ok (.dup, 1) := by decide +kernel
theorem dX8_init_111 : decode cX8_init 111 = .ok (.invokespecial 77, 3) := by decide +kernel
theorem dX8_init_114 : decode cX8_init 114 = .ok (.putfield 78, 3) := by decide +kernel
theorem dX8_init_117 : decode cX8_init 117 = .ok (.return_, 1) := by decide +kernel
theorem dX8_write_0 : decode cX8_write 0 = .ok (.iload_n 1, 1) := by decide +kernel
theorem dX8_write_1 : decode cX8_write 1 = .ok (.bipush 32, 2) := by decide +kernel
theorem dX8_write_3 : decode cX8_write 3 = .ok (.bipush 126, 2) := by decide +kernel
theorem dX8_write_5 : decode cX8_write 5 = .ok (.invokestatic 82, 3) := by decide +kernel
theorem dX8_write_8 : decode cX8_write 8 = .ok (.ifCond .ne 5, 3) := by decide +kernel
theorem dX8_write_11 : decode cX8_write 11 = .ok (.iconst (-1), 1) := by decide +kernel
theorem dX8_write_12 : decode cX8_write 12 = .ok (.ireturn, 1) := by decide +kernel
theorem dX8_write_13 : decode cX8_write 13 = .ok (.aload_n 0, 1) := by decide +kernel
theorem dX8_write_14 : decode cX8_write 14 = .ok (.getfield 13, 3) := by decide +kernel
theorem dX8_write_17 : decode cX8_write 17 = .ok (.ifCond .lt 13, 3) := by decide +kernel
theorem dX8_write_20 : decode cX8_write 20 = .ok (.aload_n 0, 1) := by decide +kernel
theorem dX8_write_21 : decode cX8_write 21 = .ok (.getfield 13, 3) := by decide +kernel
theorem dX8_write_24 : decode cX8_write 24 = .ok (.sipush 200, 3) := by decide +kernel
theorem dX8_write_27 : decode cX8_write 27 = .ok (.if_icmp .lt 6, 3) := by decide +kernel
theorem dX8_write_30 : decode cX8_write 30 = .ok (.bipush (-3), 2) := by decide +kernel
theorem dX8_write_32 : decode cX8_write 32 = .ok (.ireturn, 1) := by decide +kernel
theorem dX8_write_33 : decode cX8_write 33 = .ok (.aload_n 0, 1) := by decide +kernel
theorem dX8_write_34 : decode cX8_write 34 = .ok (.getfield 9, 3) := by decide +kernel
theorem dX8_write_37 : decode cX8_write 37 = .ok (.aload_n 0, 1) := by decide +kernel
theorem dX8_write_38 : decode cX8_write 38 = .ok (.getfield 13, 3) := by decide +kernel
theorem dX8_write_41 : decode cX8_write 41 = .ok (.iload_n 1, 1) := by decide +kernel
theorem dX8_write_42 : decode cX8_write 42 = .ok (.i2c, 1) := by decide +kernel
theorem dX8_write_43 : decode cX8_write 43 = .ok (.castore, 1) := by decide +kernel
theorem dX8_write_44 : decode cX8_write 44 = .ok (.aload_n 0, 1) := by decide +kernel
theorem dX8_write_45 : decode cX8_write 45 = .ok (.dup, 1) := by decide +kernel
theorem dX8_write_46 : decode cX8_write 46 = .ok (.getfield 13, 3) := by decide +kernel
theorem dX8_write_49 : decode cX8_write 49 = .ok (.iconst 1, 1) := by decide +kernel
theorem dX8_write_50 : decode cX8_write 50 = .ok (.iadd, 1) := by decide +kernel
theorem dX8_write_51 : decode cX8_write 51 = .ok (.putfield 13, 3) := by decide +kernel
theorem dX8_write_54 : decode cX8_write 54 = .ok (.aload_n 0, 1) := by decide +kernel
theorem dX8_write_55 : decode cX8_write 55 = .ok (.getfield 13, 3) := by decide +kernel
theorem dX8_write_58 : decode cX8_write 58 = .ok (.ireturn, 1) := by decide +kernel
theorem dX8_wipe_0 : decode cX8_wipe 0 = .ok (.aload_n 0, 1) := by decide +kernel
theorem dX8_wipe_1 : decode cX8_wipe 1 = .ok (.getfield 13, 3) := by decide +kernel
theorem dX8_wipe_4 : decode cX8_wipe 4 = .ok (.istore_n 1, 1) := by decide +kernel
theorem dX8_wipe_5 : decode cX8_wipe 5 = .ok (.aload_n 0, 1) := by decide +kernel
theorem dX8_wipe_6 : decode cX8_wipe 6 = .ok (.iconst 0, 1) := by decide +kernel
theorem dX8_wipe_7 : decode cX8_wipe 7 = .ok (.putfield 13, 3) := by decide +kernel
theorem dX8_wipe_10 : decode cX8_wipe 10 = .ok (.iload_n 1, 1) := by decide +kernel
theorem dX8_wipe_11 : decode cX8_wipe 11 = .ok (.ireturn, 1) := by decide +kernel
theorem dX8_fault_0 : decode cX8_fault 0 = .ok (.aload_n 0, 1) := by decide +kernel
theorem dX8_fault_1 : decode cX8_fault 1 = .ok (.getfield 20, 3) := by decide +kernel
theorem dX8_fault_4 : decode cX8_fault 4 = .ok (.aload_n 0, 1) := by decide +kernel
theorem dX8_fault_5 : decode cX8_fault 5 = .ok (.getfield 9, 3) := by decide +kernel
theorem dX8_fault_8 : decode cX8_fault 8 = .ok (.aload_n 0, 1) := by decide +kernel
theorem dX8_fault_9 : decode cX8_fault 9 = .ok (.getfield 13, 3) := by decide +kernel
theorem dX8_fault_12 : decode cX8_fault 12 = .ok (.aload_n 0, 1) := by decide +kernel
theorem dX8_fault_13 : decode cX8_fault 13 = .ok (.getfield 35, 3) := by decide +kernel
theorem dX8_fault_16 : decode cX8_fault 16 = .ok (.invokevirtual 86, 3) := by decide +kernel
theorem dX8_fault_19 : decode cX8_fault 19 = .ok (.ireturn, 1) := by decide +kernel
theorem dX8_lay_0 : decode cX8_lay 0 = .ok (.aload_n 0, 1) := by decide +kernel
theorem dX8_lay_1 : decode cX8_lay 1 = .ok (.getfield 20, 3) := by decide +kernel
theorem dX8_lay_4 : decode cX8_lay 4 = .ok (.aload_n 0, 1) := by decide +kernel
theorem dX8_lay_5 : decode cX8_lay 5 = .ok (.getfield 9, 3) := by decide +kernel
theorem dX8_lay_8 : decode cX8_lay 8 = .ok (.aload_n 0, 1) := by decide +kernel
theorem dX8_lay_9 : decode cX8_lay 9 = .ok (.getfield 13, 3) := by decide +kernel
theorem dX8_lay_12 : decode cX8_lay 12 = .ok (.aload_n 0, 1) := by decide +kernel
theorem dX8_lay_13 : decode cX8_lay 13 = .ok (.getfield 35, 3) := by decide +kernel
theorem dX8_lay_16 : decode cX8_lay 16 = .ok (.invokevirtual 86, 3) := by decide +kernel
theorem dX8_lay_19 : decode cX8_lay 19 = .ok (.bipush (-4), 2) := by decide +kernel
theorem dX8_lay_21 : decode cX8_lay 21 = .ok (.if_icmp .ne 13, 3) := by decide +kernel
theorem dX8_lay_24 : decode cX8_lay 24 = .ok (.aload_n 0, 1) := by decide +kernel
theorem dX8_lay_25 : decode cX8_lay 25 = .ok (.getfield 35, 3) := by decide +kernel
theorem dX8_lay_28 : decode cX8_lay 28 = .ok (.invokevirtual 90, 3) := by decide +kernel
theorem dX8_lay_31 : decode cX8_lay 31 = .ok (.ifCond .ne 6, 3) := by decide +kernel
theorem dX8_lay_34 : decode cX8_lay 34 = .ok (.bipush (-2), 2) := by decide +kernel
theorem dX8_lay_36 : decode cX8_lay 36 = .ok (.ireturn, 1) := by decide +kernel
theorem dX8_lay_37 : decode cX8_lay 37 = .ok (.aload_n 0, 1) := by decide +kernel
theorem dX8_lay_38 : decode cX8_lay 38 = .ok (.getfield 35, 3) := by decide +kernel
theorem dX8_lay_41 : decode cX8_lay 41 = .ok (.invokevirtual 94, 3) := by decide +kernel
theorem dX8_lay_44 : decode cX8_lay 44 = .ok (.aload_n 0, 1) := by decide +kernel
theorem dX8_lay_45 : decode cX8_lay 45 = .ok (.getfield 28, 3) := by decide +kernel
theorem dX8_lay_48 : decode cX8_lay 48 = .ok (.astore_n 1, 1) := by decide +kernel
theorem dX8_lay_49 : decode cX8_lay 49 = .ok (.aload_n 0, 1) := by decide +kernel
theorem dX8_lay_50 : decode cX8_lay 50 = .ok (.aload_n 0, 1) := by decide +kernel
theorem dX8_lay_51 : decode cX8_lay 51 = .ok (.getfield 35, 3) := by decide +kernel
theorem dX8_lay_54 : decode cX8_lay 54 = .ok (.putfield 28, 3) := by decide +kernel
theorem dX8_lay_57 : decode cX8_lay 57 = .ok (.aload_n 0, 1) := by decide +kernel
theorem dX8_lay_58 : decode cX8_lay 58 = .ok (.aload_n 1, 1) := by decide +kernel
theorem dX8_lay_59 : decode cX8_lay 59 = .ok (.putfield 35, 3) := by decide +kernel
theorem dX8_lay_62 : decode cX8_lay 62 = .ok (.aload_n 0, 1) := by decide +kernel
theorem dX8_lay_63 : decode cX8_lay 63 = .ok (.getfield 50, 3) := by decide +kernel
theorem dX8_lay_66 : decode cX8_lay 66 = .ok (.invokevirtual 97, 3) := by decide +kernel
theorem dX8_lay_69 : decode cX8_lay 69 = .ok (.aload_n 0, 1) := by decide +kernel
theorem dX8_lay_70 : decode cX8_lay 70 = .ok (.getfield 57, 3) := by decide +kernel
theorem dX8_lay_73 : decode cX8_lay 73 = .ok (.invokevirtual 100, 3) := by decide +kernel
theorem dX8_lay_76 : decode cX8_lay 76 = .ok (.aload_n 0, 1) := by decide +kernel
theorem dX8_lay_77 : decode cX8_lay 77 = .ok (.getfield 64, 3) := by decide +kernel
theorem dX8_lay_80 : decode cX8_lay 80 = .ok (.invokevirtual 101, 3) := by decide +kernel
theorem dX8_lay_83 : decode cX8_lay 83 = .ok (.aload_n 0, 1) := by decide +kernel
theorem dX8_lay_84 : decode cX8_lay 84 = .ok (.getfield 28, 3) := by decide +kernel
theorem dX8_lay_87 : decode cX8_lay 87 = .ok (.getfield 102, 3) := by decide +kernel
theorem dX8_lay_90 : decode cX8_lay 90 = .ok (.ireturn, 1) := by decide +kernel
theorem dX8_beast_0 : decode cX8_beast 0 = .ok (.aload_n 0, 1) := by decide +kernel
theorem dX8_beast_1 : decode cX8_beast 1 = .ok (.getfield 28, 3) := by decide +kernel
theorem dX8_beast_4 : decode cX8_beast 4 = .ok (.iload_n 1, 1) := by decide +kernel
theorem dX8_beast_5 : decode cX8_beast 5 = .ok (.invokevirtual 105, 3) := by decide +kernel
theorem dX8_beast_8 : decode cX8_beast 8 = .ok (.ifCond .ne 5, 3) := by decide +kernel
theorem dX8_beast_11 : decode cX8_beast 11 = .ok (.iconst (-1), 1) := by decide +kernel
theorem dX8_beast_12 : decode cX8_beast 12 = .ok (.ireturn, 1) := by decide +kernel
theorem dX8_beast_13 : decode cX8_beast 13 = .ok (.iload_n 2, 1) := by decide +kernel
theorem dX8_beast_14 : decode cX8_beast 14 = .ok (.tableswitch 112 0 6 #[42, 52, 62, 72, 82, 92, 102], 42) := by decide +kernel
theorem dX8_beast_56 : decode cX8_beast 56 = .ok (.aload_n 0, 1) := by decide +kernel
theorem dX8_beast_57 : decode cX8_beast 57 = .ok (.getfield 28, 3) := by decide +kernel
theorem dX8_beast_60 : decode cX8_beast 60 = .ok (.getfield 109, 3) := by decide +kernel
theorem dX8_beast_63 : decode cX8_beast 63 = .ok (.iload_n 1, 1) := by decide +kernel
theorem dX8_beast_64 : decode cX8_beast 64 = .ok (.iaload, 1) := by decide +kernel
theorem dX8_beast_65 : decode cX8_beast 65 = .ok (.ireturn, 1) := by decide +kernel
theorem dX8_beast_66 : decode cX8_beast 66 = .ok (.aload_n 0, 1) := by decide +kernel
theorem dX8_beast_67 : decode cX8_beast 67 = .ok (.getfield 28, 3) := by decide +kernel
theorem dX8_beast_70 : decode cX8_beast 70 = .ok (.getfield 113, 3) := by decide +kernel
theorem dX8_beast_73 : decode cX8_beast 73 = .ok (.iload_n 1, 1) := by decide +kernel
theorem dX8_beast_74 : decode cX8_beast 74 = .ok (.iaload, 1) := by decide +kernel
theorem dX8_beast_75 : decode cX8_beast 75 = .ok (.ireturn, 1) := by decide +kernel
theorem dX8_beast_76 : decode cX8_beast 76 = .ok (.aload_n 0, 1) := by decide +kernel
theorem dX8_beast_77 : decode cX8_beast 77 = .ok (.getfield 28, 3) := by decide +kernel
theorem dX8_beast_80 : decode cX8_beast 80 = .ok (.getfield 116, 3) := by decide +kernel
theorem dX8_beast_83 : decode cX8_beast 83 = .ok (.iload_n 1, 1) := by decide +kernel
theorem dX8_beast_84 : decode cX8_beast 84 = .ok (.iaload, 1) := by decide +kernel
theorem dX8_beast_85 : decode cX8_beast 85 = .ok (.ireturn, 1) := by decide +kernel
theorem dX8_beast_86 : decode cX8_beast 86 = .ok (.aload_n 0, 1) := by decide +kernel
theorem dX8_beast_87 : decode cX8_beast 87 = .ok (.getfield 28, 3) := by decide +kernel
theorem dX8_beast_90 : decode cX8_beast 90 = .ok (.getfield 119, 3) := by decide +kernel
theorem dX8_beast_93 : decode cX8_beast 93 = .ok (.iload_n 1, 1) := by decide +kernel
theorem dX8_beast_94 : decode cX8_beast 94 = .ok (.iaload, 1) := by decide +kernel
theorem dX8_beast_95 : decode cX8_beast 95 = .ok (.ireturn, 1) := by decide +kernel
theorem dX8_beast_96 : decode cX8_beast 96 = .ok (.aload_n 0, 1) := by decide +kernel
theorem dX8_beast_97 : decode cX8_beast 97 = .ok (.getfield 28, 3) := by decide +kernel
theorem dX8_beast_100 : decode cX8_beast 100 = .ok (.getfield 122, 3) := by decide +kernel
theorem dX8_beast_103 : decode cX8_beast 103 = .ok (.iload_n 1, 1) := by decide +kernel
theorem dX8_beast_104 : decode cX8_beast 104 = .ok (.iaload, 1) := by decide +kernel
theorem dX8_beast_105 : decode cX8_beast 105 = .ok (.ireturn, 1) := by decide +kernel
theorem dX8_beast_106 : decode cX8_beast 106 = .ok (.aload_n 0, 1) := by decide +kernel
theorem dX8_beast_107 : decode cX8_beast 107 = .ok (.getfield 28, 3) := by decide +kernel
theorem dX8_beast_110 : decode cX8_beast 110 = .ok (.getfield 125, 3) := by decide +kernel
theorem dX8_beast_113 : decode cX8_beast 113 = .ok (.iload_n 1, 1) := by decide +kernel
theorem dX8_beast_114 : decode cX8_beast 114 = .ok (.iaload, 1) := by decide +kernel
theorem dX8_beast_115 : decode cX8_beast 115 = .ok (.ireturn, 1) := by decide +kernel
theorem dX8_beast_116 : decode cX8_beast 116 = .ok (.aload_n 0, 1) := by decide +kernel
theorem dX8_beast_117 : decode cX8_beast 117 = .ok (.getfield 28, 3) := by decide +kernel
theorem dX8_beast_120 : decode cX8_beast 120 = .ok (.getfield 128, 3) := by decide +kernel
theorem dX8_beast_123 : decode cX8_beast 123 = .ok (.iload_n 1, 1) := by decide +kernel
theorem dX8_beast_124 : decode cX8_beast 124 = .ok (.iaload, 1) := by decide +kernel
theorem dX8_beast_125 : decode cX8_beast 125 = .ok (.ireturn, 1) := by decide +kernel
theorem dX8_beast_126 : decode cX8_beast 126 = .ok (.iconst (-1), 1) := by decide +kernel
theorem dX8_beast_127 : decode cX8_beast 127 = .ok (.ireturn, 1) := by decide +kernel
theorem dX8_current_0 : decode cX8_current 0 = .ok (.iload_n 1, 1) := by decide +kernel
theorem dX8_current_1 : decode cX8_current 1 = .ok (.iconst 1, 1) := by decide +kernel
theorem dX8_current_2 : decode cX8_current 2 = .ok (.sipush 200, 3) := by decide +kernel
theorem dX8_current_5 : decode cX8_current 5 = .ok (.invokestatic 82, 3) := by decide +kernel
theorem dX8_current_8 : decode cX8_current 8 = .ok (.ifCond .eq 15, 3) := by decide +kernel
theorem dX8_current_11 : decode cX8_current 11 = .ok (.aload_n 0, 1) := by decide +kernel
theorem dX8_current_12 : decode cX8_current 12 = .ok (.getfield 28, 3) := by decide +kernel
theorem dX8_current_15 : decode cX8_current 15 = .ok (.getfield 131, 3) := by decide +kernel
theorem dX8_current_18 : decode cX8_current 18 = .ok (.iload_n 1, 1) := by decide +kernel
theorem dX8_current_19 : decode cX8_current 19 = .ok (.iaload, 1) := by decide +kernel
theorem dX8_current_20 : decode cX8_current 20 = .ok (.goto 4, 3) := by decide +kernel
theorem dX8_current_23 : decode cX8_current 23 = .ok (.iconst (-1), 1) := by decide +kernel
theorem dX8_current_24 : decode cX8_current 24 = .ok (.ireturn, 1) := by decide +kernel
theorem dX8_where_0 : decode cX8_where 0 = .ok (.aload_n 0, 1) := by decide +kernel
theorem dX8_where_1 : decode cX8_where 1 = .ok (.getfield 28, 3) := by decide +kernel
theorem dX8_where_4 : decode cX8_where 4 = .ok (.iload_n 1, 1) := by decide +kernel
theorem dX8_where_5 : decode cX8_where 5 = .ok (.invokevirtual 105, 3) := by decide +kernel
theorem dX8_where_8 : decode cX8_where 8 = .ok (.ifCond .eq 14, 3) := by decide +kernel
theorem dX8_where_11 : decode cX8_where 11 = .ok (.iload_n 2, 1) := by decide +kernel
theorem dX8_where_12 : decode cX8_where 12 = .ok (.iconst 0, 1) := by decide +kernel
theorem dX8_where_13 : decode cX8_where 13 = .ok (.sipush 200, 3) := by decide +kernel
theorem dX8_where_16 : decode cX8_where 16 = .ok (.invokestatic 82, 3) := by decide +kernel
theorem dX8_where_19 : decode cX8_where 19 = .ok (.ifCond .ne 5, 3) := by decide +kernel
theorem dX8_where_22 : decode cX8_where 22 = .ok (.iconst (-1), 1) := by decide +kernel
theorem dX8_where_23 : decode cX8_where 23 = .ok (.ireturn, 1) := by decide +kernel
theorem dX8_where_24 : decode cX8_where 24 = .ok (.aload_n 0, 1) := by decide +kernel
theorem dX8_where_25 : decode cX8_where 25 = .ok (.getfield 43, 3) := by decide +kernel
theorem dX8_where_28 : decode cX8_where 28 = .ok (.aload_n 0, 1) := by decide +kernel
theorem dX8_where_29 : decode cX8_where 29 = .ok (.getfield 28, 3) := by decide +kernel
theorem dX8_where_32 : decode cX8_where 32 = .ok (.invokevirtual 134, 3) := by decide +kernel
theorem dX8_where_35 : decode cX8_where 35 = .ok (.aload_n 0, 1) := by decide +kernel
theorem dX8_where_36 : decode cX8_where 36 = .ok (.getfield 43, 3) := by decide +kernel
theorem dX8_where_39 : decode cX8_where 39 = .ok (.iload_n 1, 1) := by decide +kernel
theorem dX8_where_40 : decode cX8_where 40 = .ok (.invokevirtual 137, 3) := by decide +kernel
theorem dX8_where_43 : decode cX8_where 43 = .ok (.aload_n 0, 1) := by decide +kernel
theorem dX8_where_44 : decode cX8_where 44 = .ok (.getfield 43, 3) := by decide +kernel
theorem dX8_where_47 : decode cX8_where 47 = .ok (.iload_n 2, 1) := by decide +kernel
theorem dX8_where_48 : decode cX8_where 48 = .ok (.invokevirtual 141, 3) := by decide +kernel
theorem dX8_where_51 : decode cX8_where 51 = .ok (.pop, 1) := by decide +kernel
theorem dX8_where_52 : decode cX8_where 52 = .ok (.aload_n 0, 1) := by decide +kernel
theorem dX8_where_53 : decode cX8_where 53 = .ok (.getfield 43, 3) := by decide +kernel
theorem dX8_where_56 : decode cX8_where 56 = .ok (.getfield 145, 3) := by decide +kernel
theorem dX8_where_59 : decode cX8_where 59 = .ok (.aload_n 0, 1) := by decide +kernel
theorem dX8_where_60 : decode cX8_where 60 = .ok (.getfield 28, 3) := by decide +kernel
theorem dX8_where_63 : decode cX8_where 63 = .ok (.getfield 148, 3) := by decide +kernel
theorem dX8_where_66 : decode cX8_where 66 = .ok (.invokestatic 151, 3) := by decide +kernel
theorem dX8_where_69 : decode cX8_where 69 = .ok (.ireturn, 1) := by decide +kernel
theorem dX8_lands_0 : decode cX8_lands 0 = .ok (.aload_n 0, 1) := by decide +kernel
theorem dX8_lands_1 : decode cX8_lands 1 = .ok (.getfield 28, 3) := by decide +kernel
theorem dX8_lands_4 : decode cX8_lands 4 = .ok (.iload_n 1, 1) := by decide +kernel
theorem dX8_lands_5 : decode cX8_lands 5 = .ok (.invokevirtual 105, 3) := by decide +kernel
theorem dX8_lands_8 : decode cX8_lands 8 = .ok (.ifCond .ne 5, 3) := by decide +kernel
theorem dX8_lands_11 : decode cX8_lands 11 = .ok (.iconst (-1), 1) := by decide +kernel
theorem dX8_lands_12 : decode cX8_lands 12 = .ok (.ireturn, 1) := by decide +kernel
theorem dX8_lands_13 : decode cX8_lands 13 = .ok (.aload_n 0, 1) := by decide +kernel
theorem dX8_lands_14 : decode cX8_lands 14 = .ok (.getfield 43, 3) := by decide +kernel
theorem dX8_lands_17 : decode cX8_lands 17 = .ok (.aload_n 0, 1) := by decide +kernel
theorem dX8_lands_18 : decode cX8_lands 18 = .ok (.getfield 28, 3) := by decide +kernel
theorem dX8_lands_21 : decode cX8_lands 21 = .ok (.invokevirtual 134, 3) := by decide +kernel
theorem dX8_lands_24 : decode cX8_lands 24 = .ok (.aload_n 0, 1) := by decide +kernel
theorem dX8_lands_25 : decode cX8_lands 25 = .ok (.getfield 43, 3) := by decide +kernel
theorem dX8_lands_28 : decode cX8_lands 28 = .ok (.iload_n 1, 1) := by decide +kernel
theorem dX8_lands_29 : decode cX8_lands 29 = .ok (.invokevirtual 137, 3) := by decide +kernel
theorem dX8_lands_32 : decode cX8_lands 32 = .ok (.aload_n 0, 1) := by decide +kernel
theorem dX8_lands_33 : decode cX8_lands 33 = .ok (.getfield 43, 3) := by decide +kernel
theorem dX8_lands_36 : decode cX8_lands 36 = .ok (.sipush 200, 3) := by decide +kernel
theorem dX8_lands_39 : decode cX8_lands 39 = .ok (.invokevirtual 141, 3) := by decide +kernel
theorem dX8_lands_42 : decode cX8_lands 42 = .ok (.istore_n 2, 1) := by decide +kernel
theorem dX8_lands_43 : decode cX8_lands 43 = .ok (.iload_n 2, 1) := by decide +kernel
theorem dX8_lands_44 : decode cX8_lands 44 = .ok (.sipush 201, 3) := by decide +kernel
theorem dX8_lands_47 : decode cX8_lands 47 = .ok (.if_icmp .ne 8, 3) := by decide +kernel
theorem dX8_lands_50 : decode cX8_lands 50 = .ok (.bipush (-4), 2) := by decide +kernel
theorem dX8_lands_52 : decode cX8_lands 52 = .ok (.goto 4, 3) := by decide +kernel
theorem dX8_lands_55 : decode cX8_lands 55 = .ok (.iload_n 2, 1) := by decide +kernel
theorem dX8_lands_56 : decode cX8_lands 56 = .ok (.ireturn, 1) := by decide +kernel
theorem dX8_rank_0 : decode cX8_rank 0 = .ok (.aload_n 0, 1) := by decide +kernel
theorem dX8_rank_1 : decode cX8_rank 1 = .ok (.getfield 28, 3) := by decide +kernel
theorem dX8_rank_4 : decode cX8_rank 4 = .ok (.iload_n 1, 1) := by decide +kernel
theorem dX8_rank_5 : decode cX8_rank 5 = .ok (.invokevirtual 105, 3) := by decide +kernel
theorem dX8_rank_8 : decode cX8_rank 8 = .ok (.ifCond .ne 5, 3) := by decide +kernel
theorem dX8_rank_11 : decode cX8_rank 11 = .ok (.iconst (-1), 1) := by decide +kernel
theorem dX8_rank_12 : decode cX8_rank 12 = .ok (.ireturn, 1) := by decide +kernel
theorem dX8_rank_13 : decode cX8_rank 13 = .ok (.aload_n 0, 1) := by decide +kernel
theorem dX8_rank_14 : decode cX8_rank 14 = .ok (.invokevirtual 157, 3) := by decide +kernel
theorem dX8_rank_17 : decode cX8_rank 17 = .ok (.aload_n 0, 1) := by decide +kernel
theorem dX8_rank_18 : decode cX8_rank 18 = .ok (.getfield 43, 3) := by decide +kernel
theorem dX8_rank_21 : decode cX8_rank 21 = .ok (.getfield 160, 3) := by decide +kernel
theorem dX8_rank_24 : decode cX8_rank 24 = .ok (.iload_n 1, 1) := by decide +kernel
theorem dX8_rank_25 : decode cX8_rank 25 = .ok (.iaload, 1) := by decide +kernel
theorem dX8_rank_26 : decode cX8_rank 26 = .ok (.ireturn, 1) := by decide +kernel
theorem dX8_who_0 : decode cX8_who 0 = .ok (.iload_n 1, 1) := by decide +kernel
theorem dX8_who_1 : decode cX8_who 1 = .ok (.iconst 1, 1) := by decide +kernel
theorem dX8_who_2 : decode cX8_who 2 = .ok (.aload_n 0, 1) := by decide +kernel
theorem dX8_who_3 : decode cX8_who 3 = .ok (.getfield 28, 3) := by decide +kernel
theorem dX8_who_6 : decode cX8_who 6 = .ok (.getfield 102, 3) := by decide +kernel
theorem dX8_who_9 : decode cX8_who 9 = .ok (.invokestatic 82, 3) := by decide +kernel
theorem dX8_who_12 : decode cX8_who 12 = .ok (.ifCond .ne 5, 3) := by decide +kernel
theorem dX8_who_15 : decode cX8_who 15 = .ok (.iconst (-1), 1) := by decide +kernel
theorem dX8_who_16 : decode cX8_who 16 = .ok (.ireturn, 1) := by decide +kernel
theorem dX8_who_17 : decode cX8_who 17 = .ok (.aload_n 0, 1) := by decide +kernel
theorem dX8_who_18 : decode cX8_who 18 = .ok (.invokevirtual 157, 3) := by decide +kernel
theorem dX8_who_21 : decode cX8_who 21 = .ok (.aload_n 0, 1) := by decide +kernel
theorem dX8_who_22 : decode cX8_who 22 = .ok (.getfield 43, 3) := by decide +kernel
theorem dX8_who_25 : decode cX8_who 25 = .ok (.getfield 163, 3) := by decide +kernel
theorem dX8_who_28 : decode cX8_who 28 = .ok (.iload_n 1, 1) := by decide +kernel
theorem dX8_who_29 : decode cX8_who 29 = .ok (.iconst 1, 1) := by decide +kernel
theorem dX8_who_30 : decode cX8_who 30 = .ok (.isub, 1) := by decide +kernel
theorem dX8_who_31 : decode cX8_who 31 = .ok (.iaload, 1) := by decide +kernel
theorem dX8_who_32 : decode cX8_who 32 = .ok (.ireturn, 1) := by decide +kernel
theorem dX8_start_0 : decode cX8_start 0 = .ok (.aload_n 0, 1) := by decide +kernel
theorem dX8_start_1 : decode cX8_start 1 = .ok (.getfield 28, 3) := by decide +kernel
theorem dX8_start_4 : decode cX8_start 4 = .ok (.iload_n 1, 1) := by decide +kernel
theorem dX8_start_5 : decode cX8_start 5 = .ok (.invokevirtual 105, 3) := by decide +kernel
theorem dX8_start_8 : decode cX8_start 8 = .ok (.ifCond .eq 13, 3) := by decide +kernel
theorem dX8_start_11 : decode cX8_start 11 = .ok (.iload_n 2, 1) := by decide +kernel
theorem dX8_start_12 : decode cX8_start 12 = .ok (.iconst 0, 1) := by decide +kernel
theorem dX8_start_13 : decode cX8_start 13 = .ok (.bipush 30, 2) := by decide +kernel
theorem dX8_start_15 : decode cX8_start 15 = .ok (.invokestatic 82, 3) := by decide +kernel
theorem dX8_start_18 : decode cX8_start 18 = .ok (.ifCond .ne 5, 3) := by decide +kernel
theorem dX8_start_21 : decode cX8_start 21 = .ok (.iconst (-1), 1) := by decide +kernel
theorem dX8_start_22 : decode cX8_start 22 = .ok (.ireturn, 1) := by decide +kernel
theorem dX8_start_23 : decode cX8_start 23 = .ok (.aload_n 0, 1) := by decide +kernel
theorem dX8_start_24 : decode cX8_start 24 = .ok (.getfield 28, 3) := by decide +kernel
theorem dX8_start_27 : decode cX8_start 27 = .ok (.getfield 119, 3) := by decide +kernel
theorem dX8_start_30 : decode cX8_start 30 = .ok (.iload_n 1, 1) := by decide +kernel
theorem dX8_start_31 : decode cX8_start 31 = .ok (.iaload, 1) := by decide +kernel
theorem dX8_start_32 : decode cX8_start 32 = .ok (.istore_n 3, 1) := by decide +kernel
theorem dX8_start_33 : decode cX8_start 33 = .ok (.aload_n 0, 1) := by decide +kernel
theorem dX8_start_34 : decode cX8_start 34 = .ok (.getfield 50, 3) := by decide +kernel
theorem dX8_start_37 : decode cX8_start 37 = .ok (.aload_n 0, 1) := by decide +kernel
theorem dX8_start_38 : decode cX8_start 38 = .ok (.getfield 28, 3) := by decide +kernel
theorem dX8_start_41 : decode cX8_start 41 = .ok (.iload_n 1, 1) := by decide +kernel
theorem dX8_start_42 : decode cX8_start 42 = .ok (.invokevirtual 166, 3) := by decide +kernel
theorem dX8_start_45 : decode cX8_start 45 = .ok (.aload_n 0, 1) := by decide +kernel
theorem dX8_start_46 : decode cX8_start 46 = .ok (.getfield 28, 3) := by decide +kernel
theorem dX8_start_49 : decode cX8_start 49 = .ok (.getfield 119, 3) := by decide +kernel
theorem dX8_start_52 : decode cX8_start 52 = .ok (.iload_n 1, 1) := by decide +kernel
theorem dX8_start_53 : decode cX8_start 53 = .ok (.iload_n 2, 1) := by decide +kernel
theorem dX8_start_54 : decode cX8_start 54 = .ok (.iastore, 1) := by decide +kernel
theorem dX8_start_55 : decode cX8_start 55 = .ok (.iload_n 3, 1) := by decide +kernel
theorem dX8_start_56 : decode cX8_start 56 = .ok (.ireturn, 1) := by decide +kernel
theorem dX8_ride_0 : decode cX8_ride 0 = .ok (.aload_n 0, 1) := by decide +kernel
theorem dX8_ride_1 : decode cX8_ride 1 = .ok (.getfield 28, 3) := by decide +kernel
theorem dX8_ride_4 : decode cX8_ride 4 = .ok (.iload_n 1, 1) := by decide +kernel
theorem dX8_ride_5 : decode cX8_ride 5 = .ok (.invokevirtual 105, 3) := by decide +kernel
theorem dX8_ride_8 : decode cX8_ride 8 = .ok (.ifCond .eq 19, 3) := by decide +kernel
theorem dX8_ride_11 : decode cX8_ride 11 = .ok (.aload_n 0, 1) := by decide +kernel
theorem dX8_ride_12 : decode cX8_ride 12 = .ok (.getfield 28, 3) := by decide +kernel
theorem dX8_ride_15 : decode cX8_ride 15 = .ok (.iload_n 2, 1) := by decide +kernel
theorem dX8_ride_16 : decode cX8_ride 16 = .ok (.invokevirtual 105, 3) := by decide +kernel
theorem dX8_ride_19 : decode cX8_ride 19 = .ok (.ifCond .eq 8, 3) := by decide +kernel
theorem dX8_ride_22 : decode cX8_ride 22 = .ok (.iload_n 1, 1) := by decide +kernel
theorem dX8_ride_23 : decode cX8_ride 23 = .ok (.iload_n 2, 1) := by decide +kernel
theorem dX8_ride_24 : decode cX8_ride 24 = .ok (.if_icmp .ne 5, 3) := by decide +kernel
theorem dX8_ride_27 : decode cX8_ride 27 = .ok (.iconst (-1), 1) := by decide +kernel
theorem dX8_ride_28 : decode cX8_ride 28 = .ok (.ireturn, 1) := by decide +kernel
theorem dX8_ride_29 : decode cX8_ride 29 = .ok (.aload_n 0, 1) := by decide +kernel
theorem dX8_ride_30 : decode cX8_ride 30 = .ok (.getfield 28, 3) := by decide +kernel
theorem dX8_ride_33 : decode cX8_ride 33 = .ok (.getfield 125, 3) := by decide +kernel
theorem dX8_ride_36 : decode cX8_ride 36 = .ok (.iload_n 1, 1) := by decide +kernel
theorem dX8_ride_37 : decode cX8_ride 37 = .ok (.iaload, 1) := by decide +kernel
theorem dX8_ride_38 : decode cX8_ride 38 = .ok (.bipush (-4), 2) := by decide +kernel
theorem dX8_ride_40 : decode cX8_ride 40 = .ok (.if_icmp .ne 28, 3) := by decide +kernel
theorem dX8_ride_43 : decode cX8_ride 43 = .ok (.aload_n 0, 1) := by decide +kernel
theorem dX8_ride_44 : decode cX8_ride 44 = .ok (.getfield 28, 3) := by decide +kernel
theorem dX8_ride_47 : decode cX8_ride 47 = .ok (.iload_n 1, 1) := by decide +kernel
theorem dX8_ride_48 : decode cX8_ride 48 = .ok (.invokevirtual 170, 3) := by decide +kernel
theorem dX8_ride_51 : decode cX8_ride 51 = .ok (.ifCond .ne 17, 3) := by decide +kernel
theorem dX8_ride_54 : decode cX8_ride 54 = .ok (.aload_n 0, 1) := by decide +kernel
theorem dX8_ride_55 : decode cX8_ride 55 = .ok (.getfield 28, 3) := by decide +kernel
theorem dX8_ride_58 : decode cX8_ride 58 = .ok (.getfield 122, 3) := by decide +kernel
theorem dX8_ride_61 : decode cX8_ride 61 = .ok (.iload_n 2, 1) := by decide +kernel
theorem dX8_ride_62 : decode cX8_ride 62 = .ok (.iaload, 1) := by decide +kernel
theorem dX8_ride_63 : decode cX8_ride 63 = .ok (.bipush (-4), 2) := by decide +kernel
theorem dX8_ride_65 : decode cX8_ride 65 = .ok (.if_icmp .eq 6, 3) := by decide +kernel
theorem dX8_ride_68 : decode cX8_ride 68 = .ok (.bipush (-2), 2) := by decide +kernel
theorem dX8_ride_70 : decode cX8_ride 70 = .ok (.ireturn, 1) := by decide +kernel
theorem dX8_ride_71 : decode cX8_ride 71 = .ok (.aload_n 0, 1) := by decide +kernel
theorem dX8_ride_72 : decode cX8_ride 72 = .ok (.iload_n 1, 1) := by decide +kernel
theorem dX8_ride_73 : decode cX8_ride 73 = .ok (.iload_n 2, 1) := by decide +kernel
theorem dX8_ride_74 : decode cX8_ride 74 = .ok (.invokevirtual 173, 3) := by decide +kernel
theorem dX8_ride_77 : decode cX8_ride 77 = .ok (.ireturn, 1) := by decide +kernel
theorem dX8_leave_0 : decode cX8_leave 0 = .ok (.aload_n 0, 1) := by decide +kernel
theorem dX8_leave_1 : decode cX8_leave 1 = .ok (.getfield 28, 3) := by decide +kernel
theorem dX8_leave_4 : decode cX8_leave 4 = .ok (.iload_n 1, 1) := by decide +kernel
theorem dX8_leave_5 : decode cX8_leave 5 = .ok (.invokevirtual 105, 3) := by decide +kernel
theorem dX8_leave_8 : decode cX8_leave 8 = .ok (.ifCond .ne 5, 3) := by decide +kernel
theorem dX8_leave_11 : decode cX8_leave 11 = .ok (.iconst (-1), 1) := by decide +kernel
theorem dX8_leave_12 : decode cX8_leave 12 = .ok (.ireturn, 1) := by decide +kernel
theorem dX8_leave_13 : decode cX8_leave 13 = .ok (.aload_n 0, 1) := by decide +kernel
theorem dX8_leave_14 : decode cX8_leave 14 = .ok (.getfield 28, 3) := by decide +kernel
theorem dX8_leave_17 : decode cX8_leave 17 = .ok (.getfield 122, 3) := by decide +kernel
theorem dX8_leave_20 : decode cX8_leave 20 = .ok (.iload_n 1, 1) := by decide +kernel
theorem dX8_leave_21 : decode cX8_leave 21 = .ok (.iaload, 1) := by decide +kernel
theorem dX8_leave_22 : decode cX8_leave 22 = .ok (.bipush (-4), 2) := by decide +kernel
theorem dX8_leave_24 : decode cX8_leave 24 = .ok (.if_icmp .ne 6, 3) := by decide +kernel
theorem dX8_leave_27 : decode cX8_leave 27 = .ok (.bipush (-2), 2) := by decide +kernel
theorem dX8_leave_29 : decode cX8_leave 29 = .ok (.ireturn, 1) := by decide +kernel
theorem dX8_leave_30 : decode cX8_leave 30 = .ok (.aload_n 0, 1) := by decide +kernel
theorem dX8_leave_31 : decode cX8_leave 31 = .ok (.iload_n 1, 1) := by decide +kernel
theorem dX8_leave_32 : decode cX8_leave 32 = .ok (.bipush (-4), 2) := by decide +kernel
theorem dX8_leave_34 : decode cX8_leave 34 = .ok (.invokevirtual 173, 3) := by decide +kernel
theorem dX8_leave_37 : decode cX8_leave 37 = .ok (.ireturn, 1) := by decide +kernel
theorem dX8_undo_0 : decode cX8_undo 0 = .ok (.aload_n 0, 1) := by decide +kernel
theorem dX8_undo_1 : decode cX8_undo 1 = .ok (.getfield 50, 3) := by decide +kernel
theorem dX8_undo_4 : decode cX8_undo 4 = .ok (.aload_n 0, 1) := by decide +kernel
theorem dX8_undo_5 : decode cX8_undo 5 = .ok (.getfield 28, 3) := by decide +kernel
theorem dX8_undo_8 : decode cX8_undo 8 = .ok (.invokevirtual 176, 3) := by decide +kernel
theorem dX8_undo_11 : decode cX8_undo 11 = .ok (.ifCond .eq 13, 3) := by decide +kernel
theorem dX8_undo_14 : decode cX8_undo 14 = .ok (.aload_n 0, 1) := by decide +kernel
theorem dX8_undo_15 : decode cX8_undo 15 = .ok (.getfield 50, 3) := by decide +kernel
theorem dX8_undo_18 : decode cX8_undo 18 = .ok (.getfield 180, 3) := by decide +kernel
theorem dX8_undo_21 : decode cX8_undo 21 = .ok (.goto 5, 3) := by decide +kernel
theorem dX8_undo_24 : decode cX8_undo 24 = .ok (.bipush (-2), 2) := by decide +kernel
theorem dX8_undo_26 : decode cX8_undo 26 = .ok (.ireturn, 1) := by decide +kernel
theorem dX8_late_0 : decode cX8_late 0 = .ok (.aload_n 0, 1) := by decide +kernel
theorem dX8_late_1 : decode cX8_late 1 = .ok (.getfield 28, 3) := by decide +kernel
theorem dX8_late_4 : decode cX8_late 4 = .ok (.iload_n 1, 1) := by decide +kernel
theorem dX8_late_5 : decode cX8_late 5 = .ok (.invokevirtual 105, 3) := by decide +kernel
theorem dX8_late_8 : decode cX8_late 8 = .ok (.ifCond .ne 5, 3) := by decide +kernel
theorem dX8_late_11 : decode cX8_late 11 = .ok (.iconst (-1), 1) := by decide +kernel
theorem dX8_late_12 : decode cX8_late 12 = .ok (.ireturn, 1) := by decide +kernel
theorem dX8_late_13 : decode cX8_late 13 = .ok (.aload_n 0, 1) := by decide +kernel
theorem dX8_late_14 : decode cX8_late 14 = .ok (.invokevirtual 157, 3) := by decide +kernel
theorem dX8_late_17 : decode cX8_late 17 = .ok (.aload_n 0, 1) := by decide +kernel
theorem dX8_late_18 : decode cX8_late 18 = .ok (.getfield 43, 3) := by decide +kernel
theorem dX8_late_21 : decode cX8_late 21 = .ok (.getfield 160, 3) := by decide +kernel
theorem dX8_late_24 : decode cX8_late 24 = .ok (.iload_n 1, 1) := by decide +kernel
theorem dX8_late_25 : decode cX8_late 25 = .ok (.iaload, 1) := by decide +kernel
theorem dX8_late_26 : decode cX8_late 26 = .ok (.istore_n 2, 1) := by decide +kernel
theorem dX8_late_27 : decode cX8_late 27 = .ok (.bipush 30, 2) := by decide +kernel
theorem dX8_late_29 : decode cX8_late 29 = .ok (.istore_n 3, 1) := by decide +kernel
theorem dX8_late_30 : decode cX8_late 30 = .ok (.iload_n 3, 1) := by decide +kernel
theorem dX8_late_31 : decode cX8_late 31 = .ok (.aload_n 0, 1) := by decide +kernel
theorem dX8_late_32 : decode cX8_late 32 = .ok (.getfield 28, 3) := by decide +kernel
theorem dX8_late_35 : decode cX8_late 35 = .ok (.getfield 119, 3) := by decide +kernel
theorem dX8_late_38 : decode cX8_late 38 = .ok (.iload_n 1, 1) := by decide +kernel
theorem dX8_late_39 : decode cX8_late 39 = .ok (.iaload, 1) := by decide +kernel
theorem dX8_late_40 : decode cX8_late 40 = .ok (.if_icmp .le 41, 3) := by decide +kernel
theorem dX8_late_43 : decode cX8_late 43 = .ok (.aload_n 0, 1) := by decide +kernel
theorem dX8_late_44 : decode cX8_late 44 = .ok (.getfield 43, 3) := by decide +kernel
theorem dX8_late_47 : decode cX8_late 47 = .ok (.getfield 183, 3) := by decide +kernel
theorem dX8_late_50 : decode cX8_late 50 = .ok (.iload_n 1, 1) := by decide +kernel
theorem dX8_late_51 : decode cX8_late 51 = .ok (.iload_n 3, 1) := by decide +kernel
theorem dX8_late_52 : decode cX8_late 52 = .ok (.iastore, 1) := by decide +kernel
theorem dX8_late_53 : decode cX8_late 53 = .ok (.aload_n 0, 1) := by decide +kernel
theorem dX8_late_54 : decode cX8_late 54 = .ok (.getfield 43, 3) := by decide +kernel
theorem dX8_late_57 : decode cX8_late 57 = .ok (.invokevirtual 184, 3) := by decide +kernel
theorem dX8_late_60 : decode cX8_late 60 = .ok (.aload_n 0, 1) := by decide +kernel
theorem dX8_late_61 : decode cX8_late 61 = .ok (.getfield 43, 3) := by decide +kernel
theorem dX8_late_64 : decode cX8_late 64 = .ok (.getfield 160, 3) := by decide +kernel
theorem dX8_late_67 : decode cX8_late 67 = .ok (.iload_n 1, 1) := by decide +kernel
theorem dX8_late_68 : decode cX8_late 68 = .ok (.iaload, 1) := by decide +kernel
theorem dX8_late_69 : decode cX8_late 69 = .ok (.iload_n 2, 1) := by decide +kernel
theorem dX8_late_70 : decode cX8_late 70 = .ok (.if_icmp .gt 5, 3) := by decide +kernel
theorem dX8_late_73 : decode cX8_late 73 = .ok (.iload_n 3, 1) := by decide +kernel
theorem dX8_late_74 : decode cX8_late 74 = .ok (.ireturn, 1) := by decide +kernel
theorem dX8_late_75 : decode cX8_late 75 = .ok (.iinc 3 (-1), 3) := by decide +kernel
theorem dX8_late_78 : decode cX8_late 78 = .ok (.goto (-48), 3) := by decide +kernel
theorem dX8_late_81 : decode cX8_late 81 = .ok (.aload_n 0, 1) := by decide +kernel
theorem dX8_late_82 : decode cX8_late 82 = .ok (.getfield 28, 3) := by decide +kernel
theorem dX8_late_85 : decode cX8_late 85 = .ok (.getfield 119, 3) := by decide +kernel
theorem dX8_late_88 : decode cX8_late 88 = .ok (.iload_n 1, 1) := by decide +kernel
theorem dX8_late_89 : decode cX8_late 89 = .ok (.iaload, 1) := by decide +kernel
theorem dX8_late_90 : decode cX8_late 90 = .ok (.ireturn, 1) := by decide +kernel
theorem dX8_back_0 : decode cX8_back 0 = .ok (.aload_n 0, 1) := by decide +kernel
theorem dX8_back_1 : decode cX8_back 1 = .ok (.getfield 28, 3) := by decide +kernel
theorem dX8_back_4 : decode cX8_back 4 = .ok (.iload_n 1, 1) := by decide +kernel
theorem dX8_back_5 : decode cX8_back 5 = .ok (.invokevirtual 105, 3) := by decide +kernel
theorem dX8_back_8 : decode cX8_back 8 = .ok (.ifCond .eq 12, 3) := by decide +kernel
theorem dX8_back_11 : decode cX8_back 11 = .ok (.iload_n 2, 1) := by decide +kernel
theorem dX8_back_12 : decode cX8_back 12 = .ok (.iconst 0, 1) := by decide +kernel
theorem dX8_back_13 : decode cX8_back 13 = .ok (.iconst 1, 1) := by decide +kernel
theorem dX8_back_14 : decode cX8_back 14 = .ok (.invokestatic 82, 3) := by decide +kernel
theorem dX8_back_17 : decode cX8_back 17 = .ok (.ifCond .ne 5, 3) := by decide +kernel
theorem dX8_back_20 : decode cX8_back 20 = .ok (.iconst (-1), 1) := by decide +kernel
theorem dX8_back_21 : decode cX8_back 21 = .ok (.ireturn, 1) := by decide +kernel
theorem dX8_back_22 : decode cX8_back 22 = .ok (.aload_n 0, 1) := by decide +kernel
theorem dX8_back_23 : decode cX8_back 23 = .ok (.getfield 28, 3) := by decide +kernel
theorem dX8_back_26 : decode cX8_back 26 = .ok (.iload_n 1, 1) := by decide +kernel
theorem dX8_back_27 : decode cX8_back 27 = .ok (.invokevirtual 170, 3) := by decide +kernel
theorem dX8_back_30 : decode cX8_back 30 = .ok (.ifCond .ne 17, 3) := by decide +kernel
theorem dX8_back_33 : decode cX8_back 33 = .ok (.aload_n 0, 1) := by decide +kernel
theorem dX8_back_34 : decode cX8_back 34 = .ok (.getfield 28, 3) := by decide +kernel
theorem dX8_back_37 : decode cX8_back 37 = .ok (.getfield 125, 3) := by decide +kernel
theorem dX8_back_40 : decode cX8_back 40 = .ok (.iload_n 1, 1) := by decide +kernel
theorem dX8_back_41 : decode cX8_back 41 = .ok (.iaload, 1) := by decide +kernel
theorem dX8_back_42 : decode cX8_back 42 = .ok (.bipush (-4), 2) := by decide +kernel
theorem dX8_back_44 : decode cX8_back 44 = .ok (.if_icmp .eq 6, 3) := by decide +kernel
theorem dX8_back_47 : decode cX8_back 47 = .ok (.bipush (-2), 2) := by decide +kernel
theorem dX8_back_49 : decode cX8_back 49 = .ok (.ireturn, 1) := by decide +kernel
theorem dX8_back_50 : decode cX8_back 50 = .ok (.aload_n 0, 1) := by decide +kernel
theorem dX8_back_51 : decode cX8_back 51 = .ok (.getfield 43, 3) := by decide +kernel
theorem dX8_back_54 : decode cX8_back 54 = .ok (.aload_n 0, 1) := by decide +kernel
theorem dX8_back_55 : decode cX8_back 55 = .ok (.getfield 28, 3) := by decide +kernel
theorem dX8_back_58 : decode cX8_back 58 = .ok (.invokevirtual 134, 3) := by decide +kernel
theorem dX8_back_61 : decode cX8_back 61 = .ok (.bipush (-4), 2) := by decide +kernel
theorem dX8_back_63 : decode cX8_back 63 = .ok (.istore_n 3, 1) := by decide +kernel
theorem dX8_back_64 : decode cX8_back 64 = .ok (.aload_n 0, 1) := by decide +kernel
theorem dX8_back_65 : decode cX8_back 65 = .ok (.iload_n 1, 1) := by decide +kernel
theorem dX8_back_66 : decode cX8_back 66 = .ok (.bipush (-4), 2) := by decide +kernel
theorem dX8_back_68 : decode cX8_back 68 = .ok (.invokevirtual 187, 3) := by decide +kernel
theorem dX8_back_71 : decode cX8_back 71 = .ok (.istore 4, 2) := by decide +kernel
theorem dX8_back_73 : decode cX8_back 73 = .ok (.iconst 0, 1) := by decide +kernel
theorem dX8_back_74 : decode cX8_back 74 = .ok (.istore 5, 2) := by decide +kernel
theorem dX8_back_76 : decode cX8_back 76 = .ok (.iload 5, 2) := by decide +kernel
theorem dX8_back_78 : decode cX8_back 78 = .ok (.aload_n 0, 1) := by decide +kernel
theorem dX8_back_79 : decode cX8_back 79 = .ok (.getfield 28, 3) := by decide +kernel
theorem dX8_back_82 : decode cX8_back 82 = .ok (.getfield 102, 3) := by decide +kernel
theorem dX8_back_85 : decode cX8_back 85 = .ok (.if_icmp .ge 53, 3) := by decide +kernel
theorem dX8_back_88 : decode cX8_back 88 = .ok (.iload 5, 2) := by decide +kernel
theorem dX8_back_90 : decode cX8_back 90 = .ok (.iload_n 1, 1) := by decide +kernel
theorem dX8_back_91 : decode cX8_back 91 = .ok (.if_icmp .eq 41, 3) := by decide +kernel
theorem dX8_back_94 : decode cX8_back 94 = .ok (.aload_n 0, 1) := by decide +kernel
theorem dX8_back_95 : decode cX8_back 95 = .ok (.getfield 28, 3) := by decide +kernel
theorem dX8_back_98 : decode cX8_back 98 = .ok (.getfield 122, 3) := by decide +kernel
theorem dX8_back_101 : decode cX8_back 101 = .ok (.iload 5, 2) := by decide +kernel
theorem dX8_back_103 : decode cX8_back 103 = .ok (.iaload, 1) := by decide +kernel
theorem dX8_back_104 : decode cX8_back 104 = .ok (.bipush (-4), 2) := by decide +kernel
theorem dX8_back_106 : decode cX8_back 106 = .ok (.if_icmp .ne 26, 3) := by decide +kernel
theorem dX8_back_109 : decode cX8_back 109 = .ok (.aload_n 0, 1) := by decide +kernel
theorem dX8_back_110 : decode cX8_back 110 = .ok (.iload_n 1, 1) := by decide +kernel
theorem dX8_back_111 : decode cX8_back 111 = .ok (.iload 5, 2) := by decide +kernel
theorem dX8_back_113 : decode cX8_back 113 = .ok (.invokevirtual 187, 3) := by decide +kernel
theorem dX8_back_116 : decode cX8_back 116 = .ok (.istore 6, 2) := by decide +kernel
theorem dX8_back_118 : decode cX8_back 118 = .ok (.iload 6, 2) := by decide +kernel
theorem dX8_back_120 : decode cX8_back 120 = .ok (.iload 4, 2) := by decide +kernel
theorem dX8_back_122 : decode cX8_back 122 = .ok (.if_icmp .ge 10, 3) := by decide +kernel
theorem dX8_back_125 : decode cX8_back 125 = .ok (.iload 5, 2) := by decide +kernel
theorem dX8_back_127 : decode cX8_back 127 = .ok (.istore_n 3, 1) := by decide +kernel
theorem dX8_back_128 : decode cX8_back 128 = .ok (.iload 6, 2) := by decide +kernel
theorem dX8_back_130 : decode cX8_back 130 = .ok (.istore 4, 2) := by decide +kernel
theorem dX8_back_132 : decode cX8_back 132 = .ok (.iinc 5 1, 3) := by decide +kernel
theorem dX8_back_135 : decode cX8_back 135 = .ok (.goto (-59), 3) := by decide +kernel
theorem dX8_back_138 : decode cX8_back 138 = .ok (.iload_n 2, 1) := by decide +kernel
theorem dX8_back_139 : decode cX8_back 139 = .ok (.ifCond .ne 7, 3) := by decide +kernel
theorem dX8_back_142 : decode cX8_back 142 = .ok (.iload_n 3, 1) := by decide +kernel
theorem dX8_back_143 : decode cX8_back 143 = .ok (.goto 5, 3) := by decide +kernel
theorem dX8_back_146 : decode cX8_back 146 = .ok (.iload 4, 2) := by decide +kernel
theorem dX8_back_148 : decode cX8_back 148 = .ok (.ireturn, 1) := by decide +kernel
theorem dX8_twos_0 : decode cX8_twos 0 = .ok (.iconst 0, 1) := by decide +kernel
theorem dX8_twos_1 : decode cX8_twos 1 = .ok (.istore_n 1, 1) := by decide +kernel
theorem dX8_twos_2 : decode cX8_twos 2 = .ok (.bipush 9, 2) := by decide +kernel
theorem dX8_twos_4 : decode cX8_twos 4 = .ok (.istore_n 2, 1) := by decide +kernel
theorem dX8_twos_5 : decode cX8_twos 5 = .ok (.iload_n 2, 1) := by decide +kernel
theorem dX8_twos_6 : decode cX8_twos 6 = .ok (.iconst 1, 1) := by decide +kernel
theorem dX8_twos_7 : decode cX8_twos 7 = .ok (.if_icmp .lt 25, 3) := by decide +kernel
theorem dX8_twos_10 : decode cX8_twos 10 = .ok (.iload_n 1, 1) := by decide +kernel
theorem dX8_twos_11 : decode cX8_twos 11 = .ok (.aload_n 0, 1) := by decide +kernel
theorem dX8_twos_12 : decode cX8_twos 12 = .ok (.iload_n 2, 1) := by decide +kernel
theorem dX8_twos_13 : decode cX8_twos 13 = .ok (.invokevirtual 190, 3) := by decide +kernel
theorem dX8_twos_16 : decode cX8_twos 16 = .ok (.iadd, 1) := by decide +kernel
theorem dX8_twos_17 : decode cX8_twos 17 = .ok (.aload_n 0, 1) := by decide +kernel
theorem dX8_twos_18 : decode cX8_twos 18 = .ok (.iload_n 2, 1) := by decide +kernel
theorem dX8_twos_19 : decode cX8_twos 19 = .ok (.invokevirtual 193, 3) := by decide +kernel
theorem dX8_twos_22 : decode cX8_twos 22 = .ok (.invokestatic 151, 3) := by decide +kernel
theorem dX8_twos_25 : decode cX8_twos 25 = .ok (.istore_n 1, 1) := by decide +kernel
theorem dX8_twos_26 : decode cX8_twos 26 = .ok (.iinc 2 (-1), 3) := by decide +kernel
theorem dX8_twos_29 : decode cX8_twos 29 = .ok (.goto (-24), 3) := by decide +kernel
theorem dX8_twos_32 : decode cX8_twos 32 = .ok (.iload_n 1, 1) := by decide +kernel
theorem dX8_twos_33 : decode cX8_twos 33 = .ok (.ireturn, 1) := by decide +kernel
theorem dX8_bridge_0 : decode cX8_bridge 0 = .ok (.iload_n 1, 1) := by decide +kernel
theorem dX8_bridge_1 : decode cX8_bridge 1 = .ok (.iconst (-1), 1) := by decide +kernel
theorem dX8_bridge_2 : decode cX8_bridge 2 = .ok (.if_icmp .eq 16, 3) := by decide +kernel
theorem dX8_bridge_5 : decode cX8_bridge 5 = .ok (.aload_n 0, 1) := by decide +kernel
theorem dX8_bridge_6 : decode cX8_bridge 6 = .ok (.getfield 28, 3) := by decide +kernel
theorem dX8_bridge_9 : decode cX8_bridge 9 = .ok (.iload_n 1, 1) := by decide +kernel
theorem dX8_bridge_10 : decode cX8_bridge 10 = .ok (.invokevirtual 105, 3) := by decide +kernel
theorem dX8_bridge_13 : decode cX8_bridge 13 = .ok (.ifCond .ne 5, 3) := by decide +kernel
theorem dX8_bridge_16 : decode cX8_bridge 16 = .ok (.iconst (-1), 1) := by decide +kernel
theorem dX8_bridge_17 : decode cX8_bridge 17 = .ok (.ireturn, 1) := by decide +kernel
theorem dX8_bridge_18 : decode cX8_bridge 18 = .ok (.aload_n 0, 1) := by decide +kernel
theorem dX8_bridge_19 : decode cX8_bridge 19 = .ok (.getfield 43, 3) := by decide +kernel
theorem dX8_bridge_22 : decode cX8_bridge 22 = .ok (.aload_n 0, 1) := by decide +kernel
theorem dX8_bridge_23 : decode cX8_bridge 23 = .ok (.getfield 28, 3) := by decide +kernel
theorem dX8_bridge_26 : decode cX8_bridge 26 = .ok (.invokevirtual 134, 3) := by decide +kernel
theorem dX8_bridge_29 : decode cX8_bridge 29 = .ok (.aload_n 0, 1) := by decide +kernel
theorem dX8_bridge_30 : decode cX8_bridge 30 = .ok (.getfield 71, 3) := by decide +kernel
theorem dX8_bridge_33 : decode cX8_bridge 33 = .ok (.aload_n 0, 1) := by decide +kernel
theorem dX8_bridge_34 : decode cX8_bridge 34 = .ok (.getfield 43, 3) := by decide +kernel
theorem dX8_bridge_37 : decode cX8_bridge 37 = .ok (.aload_n 0, 1) := by decide +kernel
theorem dX8_bridge_38 : decode cX8_bridge 38 = .ok (.getfield 28, 3) := by decide +kernel
theorem dX8_bridge_41 : decode cX8_bridge 41 = .ok (.invokevirtual 196, 3) := by decide +kernel
theorem dX8_bridge_44 : decode cX8_bridge 44 = .ok (.iload_n 1, 1) := by decide +kernel
theorem dX8_bridge_45 : decode cX8_bridge 45 = .ok (.iconst (-1), 1) := by decide +kernel
theorem dX8_bridge_46 : decode cX8_bridge 46 = .ok (.if_icmp .ne 13, 3) := by decide +kernel
theorem dX8_bridge_49 : decode cX8_bridge 49 = .ok (.aload_n 0, 1) := by decide +kernel
theorem dX8_bridge_50 : decode cX8_bridge 50 = .ok (.getfield 71, 3) := by decide +kernel
theorem dX8_bridge_53 : decode cX8_bridge 53 = .ok (.invokevirtual 200, 3) := by decide +kernel
theorem dX8_bridge_56 : decode cX8_bridge 56 = .ok (.goto 11, 3) := by decide +kernel
theorem dX8_bridge_59 : decode cX8_bridge 59 = .ok (.aload_n 0, 1) := by decide +kernel
theorem dX8_bridge_60 : decode cX8_bridge 60 = .ok (.getfield 71, 3) := by decide +kernel
theorem dX8_bridge_63 : decode cX8_bridge 63 = .ok (.iload_n 1, 1) := by decide +kernel
theorem dX8_bridge_64 : decode cX8_bridge 64 = .ok (.invokevirtual 204, 3) := by decide +kernel
theorem dX8_bridge_67 : decode cX8_bridge 67 = .ok (.ireturn, 1) := by decide +kernel
theorem dX8_calm_0 : decode cX8_calm 0 = .ok (.iload_n 1, 1) := by decide +kernel
theorem dX8_calm_1 : decode cX8_calm 1 = .ok (.iconst 0, 1) := by decide +kernel
theorem dX8_calm_2 : decode cX8_calm 2 = .ok (.iconst 1, 1) := by decide +kernel
theorem dX8_calm_3 : decode cX8_calm 3 = .ok (.invokestatic 82, 3) := by decide +kernel
theorem dX8_calm_6 : decode cX8_calm 6 = .ok (.ifCond .ne 5, 3) := by decide +kernel
theorem dX8_calm_9 : decode cX8_calm 9 = .ok (.iconst (-1), 1) := by decide +kernel
theorem dX8_calm_10 : decode cX8_calm 10 = .ok (.ireturn, 1) := by decide +kernel
theorem dX8_calm_11 : decode cX8_calm 11 = .ok (.aload_n 0, 1) := by decide +kernel
theorem dX8_calm_12 : decode cX8_calm 12 = .ok (.invokevirtual 157, 3) := by decide +kernel
theorem dX8_calm_15 : decode cX8_calm 15 = .ok (.iconst 0, 1) := by decide +kernel
theorem dX8_calm_16 : decode cX8_calm 16 = .ok (.istore_n 2, 1) := by decide +kernel
theorem dX8_calm_17 : decode cX8_calm 17 = .ok (.bipush (-4), 2) := by decide +kernel
theorem dX8_calm_19 : decode cX8_calm 19 = .ok (.istore_n 3, 1) := by decide +kernel
theorem dX8_calm_20 : decode cX8_calm 20 = .ok (.iconst 0, 1) := by decide +kernel
theorem dX8_calm_21 : decode cX8_calm 21 = .ok (.istore 4, 2) := by decide +kernel
theorem dX8_calm_23 : decode cX8_calm 23 = .ok (.iload 4, 2) := by decide +kernel
theorem dX8_calm_25 : decode cX8_calm 25 = .ok (.aload_n 0, 1) := by decide +kernel
theorem dX8_calm_26 : decode cX8_calm 26 = .ok (.getfield 28, 3) := by decide +kernel
theorem dX8_calm_29 : decode cX8_calm 29 = .ok (.getfield 102, 3) := by decide +kernel
theorem dX8_calm_32 : decode cX8_calm 32 = .ok (.if_icmp .ge 73, 3) := by decide +kernel
theorem dX8_calm_35 : decode cX8_calm 35 = .ok (.iload 4, 2) := by decide +kernel
theorem dX8_calm_37 : decode cX8_calm 37 = .ok (.iconst 1, 1) := by decide +kernel
theorem dX8_calm_38 : decode cX8_calm 38 = .ok (.iadd, 1) := by decide +kernel
theorem dX8_calm_39 : decode cX8_calm 39 = .ok (.istore 5, 2) := by decide +kernel
theorem dX8_calm_41 : decode cX8_calm 41 = .ok (.iload 5, 2) := by decide +kernel
theorem dX8_calm_43 : decode cX8_calm 43 = .ok (.aload_n 0, 1) := by decide +kernel
theorem dX8_calm_44 : decode cX8_calm 44 = .ok (.getfield 28, 3) := by decide +kernel
theorem dX8_calm_47 : decode cX8_calm 47 = .ok (.getfield 102, 3) := by decide +kernel
theorem dX8_calm_50 : decode cX8_calm 50 = .ok (.if_icmp .ge 49, 3) := by decide +kernel
theorem dX8_calm_53 : decode cX8_calm 53 = .ok (.aload_n 0, 1) := by decide +kernel
theorem dX8_calm_54 : decode cX8_calm 54 = .ok (.iload 4, 2) := by decide +kernel
theorem dX8_calm_56 : decode cX8_calm 56 = .ok (.iload 5, 2) := by decide +kernel
theorem dX8_calm_58 : decode cX8_calm 58 = .ok (.invokevirtual 207, 3) := by decide +kernel
theorem dX8_calm_61 : decode cX8_calm 61 = .ok (.ifCond .eq 32, 3) := by decide +kernel
theorem dX8_calm_64 : decode cX8_calm 64 = .ok (.aload_n 0, 1) := by decide +kernel
theorem dX8_calm_65 : decode cX8_calm 65 = .ok (.iload 5, 2) := by decide +kernel
theorem dX8_calm_67 : decode cX8_calm 67 = .ok (.iload 4, 2) := by decide +kernel
theorem dX8_calm_69 : decode cX8_calm 69 = .ok (.invokevirtual 207, 3) := by decide +kernel
theorem dX8_calm_72 : decode cX8_calm 72 = .ok (.ifCond .eq 21, 3) := by decide +kernel
theorem dX8_calm_75 : decode cX8_calm 75 = .ok (.iinc 2 1, 3) := by decide +kernel
theorem dX8_calm_78 : decode cX8_calm 78 = .ok (.iload_n 3, 1) := by decide +kernel
theorem dX8_calm_79 : decode cX8_calm 79 = .ok (.bipush (-4), 2) := by decide +kernel
theorem dX8_calm_81 : decode cX8_calm 81 = .ok (.if_icmp .ne 12, 3) := by decide +kernel
theorem dX8_calm_84 : decode cX8_calm 84 = .ok (.bipush 8, 2) := by decide +kernel
theorem dX8_calm_86 : decode cX8_calm 86 = .ok (.iload 4, 2) := by decide +kernel
theorem dX8_calm_88 : decode cX8_calm 88 = .ok (.imul, 1) := by decide +kernel
theorem dX8_calm_89 : decode cX8_calm 89 = .ok (.iload 5, 2) := by decide +kernel
theorem dX8_calm_91 : decode cX8_calm 91 = .ok (.iadd, 1) := by decide +kernel
theorem dX8_calm_92 : decode cX8_calm 92 = .ok (.istore_n 3, 1) := by decide +kernel
theorem dX8_calm_93 : decode cX8_calm 93 = .ok (.iinc 5 1, 3) := by decide +kernel
theorem dX8_calm_96 : decode cX8_calm 96 = .ok (.goto (-55), 3) := by decide +kernel
theorem dX8_calm_99 : decode cX8_calm 99 = .ok (.iinc 4 1, 3) := by decide +kernel
theorem dX8_calm_102 : decode cX8_calm 102 = .ok (.goto (-79), 3) := by decide +kernel
theorem dX8_calm_105 : decode cX8_calm 105 = .ok (.iload_n 1, 1) := by decide +kernel
theorem dX8_calm_106 : decode cX8_calm 106 = .ok (.ifCond .ne 7, 3) := by decide +kernel
theorem dX8_calm_109 : decode cX8_calm 109 = .ok (.iload_n 2, 1) := by decide +kernel
theorem dX8_calm_110 : decode cX8_calm 110 = .ok (.goto 4, 3) := by decide +kernel
theorem dX8_calm_113 : decode cX8_calm 113 = .ok (.iload_n 3, 1) := by decide +kernel
theorem dX8_calm_114 : decode cX8_calm 114 = .ok (.ireturn, 1) := by decide +kernel
theorem dX8_order_0 : decode cX8_order 0 = .ok (.iload_n 1, 1) := by decide +kernel
theorem dX8_order_1 : decode cX8_order 1 = .ok (.iconst 0, 1) := by decide +kernel
theorem dX8_order_2 : decode cX8_order 2 = .ok (.aload_n 0, 1) := by decide +kernel
theorem dX8_order_3 : decode cX8_order 3 = .ok (.getfield 28, 3) := by decide +kernel
theorem dX8_order_6 : decode cX8_order 6 = .ok (.getfield 102, 3) := by decide +kernel
theorem dX8_order_9 : decode cX8_order 9 = .ok (.invokestatic 82, 3) := by decide +kernel
theorem dX8_order_12 : decode cX8_order 12 = .ok (.ifCond .ne 5, 3) := by decide +kernel
theorem dX8_order_15 : decode cX8_order 15 = .ok (.iconst (-1), 1) := by decide +kernel
theorem dX8_order_16 : decode cX8_order 16 = .ok (.ireturn, 1) := by decide +kernel
theorem dX8_order_17 : decode cX8_order 17 = .ok (.aload_n 0, 1) := by decide +kernel
theorem dX8_order_18 : decode cX8_order 18 = .ok (.getfield 78, 3) := by decide +kernel
theorem dX8_order_21 : decode cX8_order 21 = .ok (.aload_n 0, 1) := by decide +kernel
theorem dX8_order_22 : decode cX8_order 22 = .ok (.getfield 28, 3) := by decide +kernel
theorem dX8_order_25 : decode cX8_order 25 = .ok (.invokevirtual 211, 3) := by decide +kernel
theorem dX8_order_28 : decode cX8_order 28 = .ok (.iload_n 1, 1) := by decide +kernel
theorem dX8_order_29 : decode cX8_order 29 = .ok (.ifCond .ne 15, 3) := by decide +kernel
theorem dX8_order_32 : decode cX8_order 32 = .ok (.aload_n 0, 1) := by decide +kernel
theorem dX8_order_33 : decode cX8_order 33 = .ok (.getfield 78, 3) := by decide +kernel
theorem dX8_order_36 : decode cX8_order 36 = .ok (.getfield 214, 3) := by decide +kernel
theorem dX8_order_39 : decode cX8_order 39 = .ok (.iconst 0, 1) := by decide +kernel
theorem dX8_order_40 : decode cX8_order 40 = .ok (.iaload, 1) := by decide +kernel
theorem dX8_order_41 : decode cX8_order 41 = .ok (.goto 15, 3) := by decide +kernel
theorem dX8_order_44 : decode cX8_order 44 = .ok (.aload_n 0, 1) := by decide +kernel
theorem dX8_order_45 : decode cX8_order 45 = .ok (.getfield 78, 3) := by decide +kernel
theorem dX8_order_48 : decode cX8_order 48 = .ok (.aload_n 0, 1) := by decide +kernel
theorem dX8_order_49 : decode cX8_order 49 = .ok (.getfield 28, 3) := by decide +kernel
theorem dX8_order_52 : decode cX8_order 52 = .ok (.iload_n 1, 1) := by decide +kernel
theorem dX8_order_53 : decode cX8_order 53 = .ok (.invokevirtual 217, 3) := by decide +kernel
theorem dX8_order_56 : decode cX8_order 56 = .ok (.ireturn, 1) := by decide +kernel
theorem dX8_harvest_0 : decode cX8_harvest 0 = .ok (.iload_n 1, 1) := by decide +kernel
theorem dX8_harvest_1 : decode cX8_harvest 1 = .ok (.iconst 1, 1) := by decide +kernel
theorem dX8_harvest_2 : decode cX8_harvest 2 = .ok (.bipush 99, 2) := by decide +kernel
theorem dX8_harvest_4 : decode cX8_harvest 4 = .ok (.invokestatic 82, 3) := by decide +kernel
theorem dX8_harvest_7 : decode cX8_harvest 7 = .ok (.ifCond .eq 14, 3) := by decide +kernel
theorem dX8_harvest_10 : decode cX8_harvest 10 = .ok (.aload_n 0, 1) := by decide +kernel
theorem dX8_harvest_11 : decode cX8_harvest 11 = .ok (.getfield 28, 3) := by decide +kernel
theorem dX8_harvest_14 : decode cX8_harvest 14 = .ok (.getfield 102, 3) := by decide +kernel
theorem dX8_harvest_17 : decode cX8_harvest 17 = .ok (.iconst 1, 1) := by decide +kernel
theorem dX8_harvest_18 : decode cX8_harvest 18 = .ok (.if_icmp .ge 5, 3) := by decide +kernel
theorem dX8_harvest_21 : decode cX8_harvest 21 = .ok (.iconst (-1), 1) := by decide +kernel
theorem dX8_harvest_22 : decode cX8_harvest 22 = .ok (.ireturn, 1) := by decide +kernel
theorem dX8_harvest_23 : decode cX8_harvest 23 = .ok (.aload_n 0, 1) := by decide +kernel
theorem dX8_harvest_24 : decode cX8_harvest 24 = .ok (.invokevirtual 157, 3) := by decide +kernel
theorem dX8_harvest_27 : decode cX8_harvest 27 = .ok (.iconst 0, 1) := by decide +kernel
theorem dX8_harvest_28 : decode cX8_harvest 28 = .ok (.istore_n 2, 1) := by decide +kernel
theorem dX8_harvest_29 : decode cX8_harvest 29 = .ok (.iconst 0, 1) := by decide +kernel
theorem dX8_harvest_30 : decode cX8_harvest 30 = .ok (.istore_n 3, 1) := by decide +kernel
theorem dX8_harvest_31 : decode cX8_harvest 31 = .ok (.iload_n 3, 1) := by decide +kernel
theorem dX8_harvest_32 : decode cX8_harvest 32 = .ok (.iload_n 1, 1) := by decide +kernel
theorem dX8_harvest_33 : decode cX8_harvest 33 = .ok (.if_icmp .ge 37, 3) := by decide +kernel
theorem dX8_harvest_36 : decode cX8_harvest 36 = .ok (.iload_n 2, 1) := by decide +kernel
theorem dX8_harvest_37 : decode cX8_harvest 37 = .ok (.aload_n 0, 1) := by decide +kernel
theorem dX8_harvest_38 : decode cX8_harvest 38 = .ok (.getfield 28, 3) := by decide +kernel
theorem dX8_harvest_41 : decode cX8_harvest 41 = .ok (.getfield 221, 3) := by decide +kernel
theorem dX8_harvest_44 : decode cX8_harvest 44 = .ok (.aload_n 0, 1) := by decide +kernel
theorem dX8_harvest_45 : decode cX8_harvest 45 = .ok (.getfield 43, 3) := by decide +kernel
theorem dX8_harvest_48 : decode cX8_harvest 48 = .ok (.getfield 163, 3) := by decide +kernel
theorem dX8_harvest_51 : decode cX8_harvest 51 = .ok (.iload_n 3, 1) := by decide +kernel
theorem dX8_harvest_52 : decode cX8_harvest 52 = .ok (.aload_n 0, 1) := by decide +kernel
theorem dX8_harvest_53 : decode cX8_harvest 53 = .ok (.getfield 28, 3) := by decide +kernel
theorem dX8_harvest_56 : decode cX8_harvest 56 = .ok (.getfield 102, 3) := by decide +kernel
theorem dX8_harvest_59 : decode cX8_harvest 59 = .ok (.irem, 1) := by decide +kernel
theorem dX8_harvest_60 : decode cX8_harvest 60 = .ok (.iaload, 1) := by decide +kernel
theorem dX8_harvest_61 : decode cX8_harvest 61 = .ok (.iaload, 1) := by decide +kernel
theorem dX8_harvest_62 : decode cX8_harvest 62 = .ok (.iadd, 1) := by decide +kernel
theorem dX8_harvest_63 : decode cX8_harvest 63 = .ok (.istore_n 2, 1) := by decide +kernel
theorem dX8_harvest_64 : decode cX8_harvest 64 = .ok (.iinc 3 1, 3) := by decide +kernel
theorem dX8_harvest_67 : decode cX8_harvest 67 = .ok (.goto (-36), 3) := by decide +kernel
theorem dX8_harvest_70 : decode cX8_harvest 70 = .ok (.iload_n 2, 1) := by decide +kernel
theorem dX8_harvest_71 : decode cX8_harvest 71 = .ok (.ireturn, 1) := by decide +kernel
theorem dX8_odds_0 : decode cX8_odds 0 = .ok (.aload_n 0, 1) := by decide +kernel
theorem dX8_odds_1 : decode cX8_odds 1 = .ok (.getfield 28, 3) := by decide +kernel
theorem dX8_odds_4 : decode cX8_odds 4 = .ok (.iload_n 1, 1) := by decide +kernel
theorem dX8_odds_5 : decode cX8_odds 5 = .ok (.invokevirtual 105, 3) := by decide +kernel
theorem dX8_odds_8 : decode cX8_odds 8 = .ok (.ifCond .eq 32, 3) := by decide +kernel
theorem dX8_odds_11 : decode cX8_odds 11 = .ok (.iload_n 2, 1) := by decide +kernel
theorem dX8_odds_12 : decode cX8_odds 12 = .ok (.iconst 0, 1) := by decide +kernel
theorem dX8_odds_13 : decode cX8_odds 13 = .ok (.iconst 5, 1) := by decide +kernel
theorem dX8_odds_14 : decode cX8_odds 14 = .ok (.invokestatic 82, 3) := by decide +kernel
theorem dX8_odds_17 : decode cX8_odds 17 = .ok (.ifCond .eq 23, 3) := by decide +kernel
theorem dX8_odds_20 : decode cX8_odds 20 = .ok (.iload_n 3, 1) := by decide +kernel
theorem dX8_odds_21 : decode cX8_odds 21 = .ok (.iconst 0, 1) := by decide +kernel
theorem dX8_odds_22 : decode cX8_odds 22 = .ok (.bipush 10, 2) := by decide +kernel
theorem dX8_odds_24 : decode cX8_odds 24 = .ok (.invokestatic 82, 3) := by decide +kernel
theorem dX8_odds_27 : decode cX8_odds 27 = .ok (.ifCond .eq 13, 3) := by decide +kernel
theorem dX8_odds_30 : decode cX8_odds 30 = .ok (.iload 4, 2) := by decide +kernel
theorem dX8_odds_32 : decode cX8_odds 32 = .ok (.iconst 0, 1) := by decide +kernel
theorem dX8_odds_33 : decode cX8_odds 33 = .ok (.iconst 1, 1) := by decide +kernel
theorem dX8_odds_34 : decode cX8_odds 34 = .ok (.invokestatic 82, 3) := by decide +kernel
theorem dX8_odds_37 : decode cX8_odds 37 = .ok (.ifCond .ne 5, 3) := by decide +kernel
theorem dX8_odds_40 : decode cX8_odds 40 = .ok (.iconst (-1), 1) := by decide +kernel
theorem dX8_odds_41 : decode cX8_odds 41 = .ok (.ireturn, 1) := by decide +kernel
theorem dX8_odds_42 : decode cX8_odds 42 = .ok (.iconst 1, 1) := by decide +kernel
theorem dX8_odds_43 : decode cX8_odds 43 = .ok (.istore 5, 2) := by decide +kernel
theorem dX8_odds_45 : decode cX8_odds 45 = .ok (.iconst 0, 1) := by decide +kernel
theorem dX8_odds_46 : decode cX8_odds 46 = .ok (.istore 6, 2) := by decide +kernel
theorem dX8_odds_48 : decode cX8_odds 48 = .ok (.iload 6, 2) := by decide +kernel
theorem dX8_odds_50 : decode cX8_odds 50 = .ok (.iload_n 2, 1) := by decide +kernel
theorem dX8_odds_51 : decode cX8_odds 51 = .ok (.if_icmp .ge 16, 3) := by decide +kernel
theorem dX8_odds_54 : decode cX8_odds 54 = .ok (.iload 5, 2) := by decide +kernel
theorem dX8_odds_56 : decode cX8_odds 56 = .ok (.bipush 10, 2) := by decide +kernel
theorem dX8_odds_58 : decode cX8_odds 58 = .ok (.imul, 1) := by decide +kernel
theorem dX8_odds_59 : decode cX8_odds 59 = .ok (.istore 5, 2) := by decide +kernel
theorem dX8_odds_61 : decode cX8_odds 61 = .ok (.iinc 6 1, 3) := by decide +kernel
theorem dX8_odds_64 : decode cX8_odds 64 = .ok (.goto (-16), 3) := by decide +kernel
theorem dX8_odds_67 : decode cX8_odds 67 = .ok (.aload_n 0, 1) := by decide +kernel
theorem dX8_odds_68 : decode cX8_odds 68 = .ok (.iload_n 1, 1) := by decide +kernel
theorem dX8_odds_69 : decode cX8_odds 69 = .ok (.iload_n 2, 1) := by decide +kernel
theorem dX8_odds_70 : decode cX8_odds 70 = .ok (.iload_n 3, 1) := by decide +kernel
theorem dX8_odds_71 : decode cX8_odds 71 = .ok (.invokevirtual 224, 3) := by decide +kernel
theorem dX8_odds_74 : decode cX8_odds 74 = .ok (.istore 6, 2) := by decide +kernel
theorem dX8_odds_76 : decode cX8_odds 76 = .ok (.iload 6, 2) := by decide +kernel
theorem dX8_odds_78 : decode cX8_odds 78 = .ok (.iload 5, 2) := by decide +kernel
theorem dX8_odds_80 : decode cX8_odds 80 = .ok (.invokestatic 228, 3) := by decide +kernel
theorem dX8_odds_83 : decode cX8_odds 83 = .ok (.istore 7, 2) := by decide +kernel
theorem dX8_odds_85 : decode cX8_odds 85 = .ok (.iload 7, 2) := by decide +kernel
theorem dX8_odds_87 : decode cX8_odds 87 = .ok (.iconst 1, 1) := by decide +kernel
theorem dX8_odds_88 : decode cX8_odds 88 = .ok (.if_icmp .ge 5, 3) := by decide +kernel
theorem dX8_odds_91 : decode cX8_odds 91 = .ok (.iconst (-1), 1) := by decide +kernel
theorem dX8_odds_92 : decode cX8_odds 92 = .ok (.ireturn, 1) := by decide +kernel
theorem dX8_odds_93 : decode cX8_odds 93 = .ok (.iload 4, 2) := by decide +kernel
theorem dX8_odds_95 : decode cX8_odds 95 = .ok (.ifCond .ne 8, 3) := by decide +kernel
theorem dX8_odds_98 : decode cX8_odds 98 = .ok (.iload 6, 2) := by decide +kernel
theorem dX8_odds_100 : decode cX8_odds 100 = .ok (.goto 5, 3) := by decide +kernel
theorem dX8_odds_103 : decode cX8_odds 103 = .ok (.iload 5, 2) := by decide +kernel
theorem dX8_odds_105 : decode cX8_odds 105 = .ok (.iload 7, 2) := by decide +kernel
theorem dX8_odds_107 : decode cX8_odds 107 = .ok (.idiv, 1) := by decide +kernel
theorem dX8_odds_108 : decode cX8_odds 108 = .ok (.ireturn, 1) := by decide +kernel
theorem dX8_seen_0 : decode cX8_seen 0 = .ok (.aload_n 0, 1) := by decide +kernel
theorem dX8_seen_1 : decode cX8_seen 1 = .ok (.getfield 28, 3) := by decide +kernel
theorem dX8_seen_4 : decode cX8_seen 4 = .ok (.iload_n 1, 1) := by decide +kernel
theorem dX8_seen_5 : decode cX8_seen 5 = .ok (.invokevirtual 105, 3) := by decide +kernel
theorem dX8_seen_8 : decode cX8_seen 8 = .ok (.ifCond .eq 18, 3) := by decide +kernel
theorem dX8_seen_11 : decode cX8_seen 11 = .ok (.iload_n 2, 1) := by decide +kernel
theorem dX8_seen_12 : decode cX8_seen 12 = .ok (.iconst 1, 1) := by decide +kernel
theorem dX8_seen_13 : decode cX8_seen 13 = .ok (.aload_n 0, 1) := by decide +kernel
theorem dX8_seen_14 : decode cX8_seen 14 = .ok (.getfield 28, 3) := by decide +kernel
theorem dX8_seen_17 : decode cX8_seen 17 = .ok (.getfield 102, 3) := by decide +kernel
theorem dX8_seen_20 : decode cX8_seen 20 = .ok (.invokestatic 82, 3) := by decide +kernel
theorem dX8_seen_23 : decode cX8_seen 23 = .ok (.ifCond .ne 5, 3) := by decide +kernel
theorem dX8_seen_26 : decode cX8_seen 26 = .ok (.iconst (-1), 1) := by decide +kernel
theorem dX8_seen_27 : decode cX8_seen 27 = .ok (.ireturn, 1) := by decide +kernel
theorem dX8_seen_28 : decode cX8_seen 28 = .ok (.aload_n 0, 1) := by decide +kernel
theorem dX8_seen_29 : decode cX8_seen 29 = .ok (.getfield 64, 3) := by decide +kernel
theorem dX8_seen_32 : decode cX8_seen 32 = .ok (.iload_n 1, 1) := by decide +kernel
theorem dX8_seen_33 : decode cX8_seen 33 = .ok (.iload_n 2, 1) := by decide +kernel
theorem dX8_seen_34 : decode cX8_seen 34 = .ok (.invokevirtual 231, 3) := by decide +kernel
theorem dX8_seen_37 : decode cX8_seen 37 = .ok (.ifCond .eq 13, 3) := by decide +kernel
theorem dX8_seen_40 : decode cX8_seen 40 = .ok (.aload_n 0, 1) := by decide +kernel
theorem dX8_seen_41 : decode cX8_seen 41 = .ok (.getfield 64, 3) := by decide +kernel
theorem dX8_seen_44 : decode cX8_seen 44 = .ok (.getfield 234, 3) := by decide +kernel
theorem dX8_seen_47 : decode cX8_seen 47 = .ok (.goto 5, 3) := by decide +kernel
theorem dX8_seen_50 : decode cX8_seen 50 = .ok (.bipush (-3), 2) := by decide +kernel
theorem dX8_seen_52 : decode cX8_seen 52 = .ok (.ireturn, 1) := by decide +kernel
theorem dX8_forget_0 : decode cX8_forget 0 = .ok (.aload_n 0, 1) := by decide +kernel
theorem dX8_forget_1 : decode cX8_forget 1 = .ok (.getfield 64, 3) := by decide +kernel
theorem dX8_forget_4 : decode cX8_forget 4 = .ok (.getfield 234, 3) := by decide +kernel
theorem dX8_forget_7 : decode cX8_forget 7 = .ok (.istore_n 1, 1) := by decide +kernel
theorem dX8_forget_8 : decode cX8_forget 8 = .ok (.aload_n 0, 1) := by decide +kernel
theorem dX8_forget_9 : decode cX8_forget 9 = .ok (.getfield 64, 3) := by decide +kernel
theorem dX8_forget_12 : decode cX8_forget 12 = .ok (.invokevirtual 101, 3) := by decide +kernel
theorem dX8_forget_15 : decode cX8_forget 15 = .ok (.iload_n 1, 1) := by decide +kernel
theorem dX8_forget_16 : decode cX8_forget 16 = .ok (.ireturn, 1) := by decide +kernel
theorem dX8_rides_0 : decode cX8_rides 0 = .ok (.iload_n 1, 1) := by decide +kernel
theorem dX8_rides_1 : decode cX8_rides 1 = .ok (.iconst 0, 1) := by decide +kernel
theorem dX8_rides_2 : decode cX8_rides 2 = .ok (.iconst 1, 1) := by decide +kernel
theorem dX8_rides_3 : decode cX8_rides 3 = .ok (.invokestatic 82, 3) := by decide +kernel
theorem dX8_rides_6 : decode cX8_rides 6 = .ok (.ifCond .ne 5, 3) := by decide +kernel
theorem dX8_rides_9 : decode cX8_rides 9 = .ok (.iconst (-1), 1) := by decide +kernel
theorem dX8_rides_10 : decode cX8_rides 10 = .ok (.ireturn, 1) := by decide +kernel
theorem dX8_rides_11 : decode cX8_rides 11 = .ok (.aload_n 0, 1) := by decide +kernel
theorem dX8_rides_12 : decode cX8_rides 12 = .ok (.getfield 43, 3) := by decide +kernel
theorem dX8_rides_15 : decode cX8_rides 15 = .ok (.aload_n 0, 1) := by decide +kernel
theorem dX8_rides_16 : decode cX8_rides 16 = .ok (.getfield 28, 3) := by decide +kernel
theorem dX8_rides_19 : decode cX8_rides 19 = .ok (.invokevirtual 134, 3) := by decide +kernel
theorem dX8_rides_22 : decode cX8_rides 22 = .ok (.aload_n 0, 1) := by decide +kernel
theorem dX8_rides_23 : decode cX8_rides 23 = .ok (.getfield 43, 3) := by decide +kernel
theorem dX8_rides_26 : decode cX8_rides 26 = .ok (.invokevirtual 235, 3) := by decide +kernel
theorem dX8_rides_29 : decode cX8_rides 29 = .ok (.iconst 0, 1) := by decide +kernel
theorem dX8_rides_30 : decode cX8_rides 30 = .ok (.istore_n 2, 1) := by decide +kernel
theorem dX8_rides_31 : decode cX8_rides 31 = .ok (.bipush (-4), 2) := by decide +kernel
theorem dX8_rides_33 : decode cX8_rides 33 = .ok (.istore_n 3, 1) := by decide +kernel
theorem dX8_rides_34 : decode cX8_rides 34 = .ok (.iconst 0, 1) := by decide +kernel
theorem dX8_rides_35 : decode cX8_rides 35 = .ok (.istore 4, 2) := by decide +kernel
theorem dX8_rides_37 : decode cX8_rides 37 = .ok (.iload 4, 2) := by decide +kernel
theorem dX8_rides_39 : decode cX8_rides 39 = .ok (.aload_n 0, 1) := by decide +kernel
theorem dX8_rides_40 : decode cX8_rides 40 = .ok (.getfield 28, 3) := by decide +kernel
theorem dX8_rides_43 : decode cX8_rides 43 = .ok (.getfield 102, 3) := by decide +kernel
theorem dX8_rides_46 : decode cX8_rides 46 = .ok (.if_icmp .ge 81, 3) := by decide +kernel
theorem dX8_rides_49 : decode cX8_rides 49 = .ok (.iconst 0, 1) := by decide +kernel
theorem dX8_rides_50 : decode cX8_rides 50 = .ok (.istore 5, 2) := by decide +kernel
theorem dX8_rides_52 : decode cX8_rides 52 = .ok (.iload 5, 2) := by decide +kernel
theorem dX8_rides_54 : decode cX8_rides 54 = .ok (.aload_n 0, 1) := by decide +kernel
theorem dX8_rides_55 : decode cX8_rides 55 = .ok (.getfield 28, 3) := by decide +kernel
theorem dX8_rides_58 : decode cX8_rides 58 = .ok (.getfield 102, 3) := by decide +kernel
theorem dX8_rides_61 : decode cX8_rides 61 = .ok (.if_icmp .ge 60, 3) := by decide +kernel
theorem dX8_rides_64 : decode cX8_rides 64 = .ok (.iload 4, 2) := by decide +kernel
theorem dX8_rides_66 : decode cX8_rides 66 = .ok (.iload 5, 2) := by decide +kernel
theorem dX8_rides_68 : decode cX8_rides 68 = .ok (.if_icmp .eq 47, 3) := by decide +kernel
theorem dX8_rides_71 : decode cX8_rides 71 = .ok (.aload_n 0, 1) := by decide +kernel
theorem dX8_rides_72 : decode cX8_rides 72 = .ok (.getfield 28, 3) := by decide +kernel
theorem dX8_rides_75 : decode cX8_rides 75 = .ok (.getfield 125, 3) := by decide +kernel
theorem dX8_rides_78 : decode cX8_rides 78 = .ok (.iload 4, 2) := by decide +kernel
theorem dX8_rides_80 : decode cX8_rides 80 = .ok (.iaload, 1) := by decide +kernel
theorem dX8_rides_81 : decode cX8_rides 81 = .ok (.bipush (-4), 2) := by decide +kernel
theorem dX8_rides_83 : decode cX8_rides 83 = .ok (.if_icmp .ne 32, 3) := by decide +kernel
theorem dX8_rides_86 : decode cX8_rides 86 = .ok (.aload_n 0, 1) := by decide +kernel
theorem dX8_rides_87 : decode cX8_rides 87 = .ok (.iload 4, 2) := by decide +kernel
theorem dX8_rides_89 : decode cX8_rides 89 = .ok (.iload 5, 2) := by decide +kernel
theorem dX8_rides_91 : decode cX8_rides 91 = .ok (.invokevirtual 238, 3) := by decide +kernel
theorem dX8_rides_94 : decode cX8_rides 94 = .ok (.ifCond .eq 21, 3) := by decide +kernel
theorem dX8_rides_97 : decode cX8_rides 97 = .ok (.iinc 2 1, 3) := by decide +kernel
theorem dX8_rides_100 : decode cX8_rides 100 = .ok (.iload_n 3, 1) := by decide +kernel
theorem dX8_rides_101 : decode cX8_rides 101 = .ok (.bipush (-4), 2) := by decide +kernel
theorem dX8_rides_103 : decode cX8_rides 103 = .ok (.if_icmp .ne 12, 3) := by decide +kernel
theorem dX8_rides_106 : decode cX8_rides 106 = .ok (.bipush 8, 2) := by decide +kernel
theorem dX8_rides_108 : decode cX8_rides 108 = .ok (.iload 4, 2) := by decide +kernel
theorem dX8_rides_110 : decode cX8_rides 110 = .ok (.imul, 1) := by decide +kernel
theorem dX8_rides_111 : decode cX8_rides 111 = .ok (.iload 5, 2) := by decide +kernel
theorem dX8_rides_113 : decode cX8_rides 113 = .ok (.iadd, 1) := by decide +kernel
theorem dX8_rides_114 : decode cX8_rides 114 = .ok (.istore_n 3, 1) := by decide +kernel
theorem dX8_rides_115 : decode cX8_rides 115 = .ok (.iinc 5 1, 3) := by decide +kernel
theorem dX8_rides_118 : decode cX8_rides 118 = .ok (.goto (-66), 3) := by decide +kernel
theorem dX8_rides_121 : decode cX8_rides 121 = .ok (.iinc 4 1, 3) := by decide +kernel
theorem dX8_rides_124 : decode cX8_rides 124 = .ok (.goto (-87), 3) := by decide +kernel
theorem dX8_rides_127 : decode cX8_rides 127 = .ok (.aload_n 0, 1) := by decide +kernel
theorem dX8_rides_128 : decode cX8_rides 128 = .ok (.getfield 43, 3) := by decide +kernel
theorem dX8_rides_131 : decode cX8_rides 131 = .ok (.invokevirtual 184, 3) := by decide +kernel
theorem dX8_rides_134 : decode cX8_rides 134 = .ok (.aload_n 0, 1) := by decide +kernel
theorem dX8_rides_135 : decode cX8_rides 135 = .ok (.getfield 64, 3) := by decide +kernel
theorem dX8_rides_138 : decode cX8_rides 138 = .ok (.aload_n 0, 1) := by decide +kernel
theorem dX8_rides_139 : decode cX8_rides 139 = .ok (.getfield 43, 3) := by decide +kernel
theorem dX8_rides_142 : decode cX8_rides 142 = .ok (.invokevirtual 241, 3) := by decide +kernel
theorem dX8_rides_145 : decode cX8_rides 145 = .ok (.ifCond .eq 15, 3) := by decide +kernel
theorem dX8_rides_148 : decode cX8_rides 148 = .ok (.iinc 2 1, 3) := by decide +kernel
theorem dX8_rides_151 : decode cX8_rides 151 = .ok (.iload_n 3, 1) := by decide +kernel
theorem dX8_rides_152 : decode cX8_rides 152 = .ok (.bipush (-4), 2) := by decide +kernel
theorem dX8_rides_154 : decode cX8_rides 154 = .ok (.if_icmp .ne 6, 3) := by decide +kernel
theorem dX8_rides_157 : decode cX8_rides 157 = .ok (.bipush 64, 2) := by decide +kernel
theorem dX8_rides_159 : decode cX8_rides 159 = .ok (.istore_n 3, 1) := by decide +kernel
theorem dX8_rides_160 : decode cX8_rides 160 = .ok (.iload_n 1, 1) := by decide +kernel
theorem dX8_rides_161 : decode cX8_rides 161 = .ok (.ifCond .ne 7, 3) := by decide +kernel
theorem dX8_rides_164 : decode cX8_rides 164 = .ok (.iload_n 2, 1) := by decide +kernel
theorem dX8_rides_165 : decode cX8_rides 165 = .ok (.goto 4, 3) := by decide +kernel
theorem dX8_rides_168 : decode cX8_rides 168 = .ok (.iload_n 3, 1) := by decide +kernel
theorem dX8_rides_169 : decode cX8_rides 169 = .ok (.ireturn, 1) := by decide +kernel
theorem dX8_river_0 : decode cX8_river 0 = .ok (.iload_n 1, 1) := by decide +kernel
theorem dX8_river_1 : decode cX8_river 1 = .ok (.iconst 0, 1) := by decide +kernel
theorem dX8_river_2 : decode cX8_river 2 = .ok (.sipush 9999, 3) := by decide +kernel
theorem dX8_river_5 : decode cX8_river 5 = .ok (.invokestatic 82, 3) := by decide +kernel
theorem dX8_river_8 : decode cX8_river 8 = .ok (.ifCond .eq 12, 3) := by decide +kernel
theorem dX8_river_11 : decode cX8_river 11 = .ok (.iload_n 2, 1) := by decide +kernel
theorem dX8_river_12 : decode cX8_river 12 = .ok (.iconst 0, 1) := by decide +kernel
theorem dX8_river_13 : decode cX8_river 13 = .ok (.iconst 1, 1) := by decide +kernel
theorem dX8_river_14 : decode cX8_river 14 = .ok (.invokestatic 82, 3) := by decide +kernel
theorem dX8_river_17 : decode cX8_river 17 = .ok (.ifCond .ne 5, 3) := by decide +kernel
theorem dX8_river_20 : decode cX8_river 20 = .ok (.iconst (-1), 1) := by decide +kernel
theorem dX8_river_21 : decode cX8_river 21 = .ok (.ireturn, 1) := by decide +kernel
theorem dX8_river_22 : decode cX8_river 22 = .ok (.aload_n 0, 1) := by decide +kernel
theorem dX8_river_23 : decode cX8_river 23 = .ok (.getfield 43, 3) := by decide +kernel
theorem dX8_river_26 : decode cX8_river 26 = .ok (.aload_n 0, 1) := by decide +kernel
theorem dX8_river_27 : decode cX8_river 27 = .ok (.getfield 28, 3) := by decide +kernel
theorem dX8_river_30 : decode cX8_river 30 = .ok (.invokevirtual 134, 3) := by decide +kernel
theorem dX8_river_33 : decode cX8_river 33 = .ok (.aload_n 0, 1) := by decide +kernel
theorem dX8_river_34 : decode cX8_river 34 = .ok (.getfield 43, 3) := by decide +kernel
theorem dX8_river_37 : decode cX8_river 37 = .ok (.iload_n 1, 1) := by decide +kernel
theorem dX8_river_38 : decode cX8_river 38 = .ok (.invokevirtual 245, 3) := by decide +kernel
theorem dX8_river_41 : decode cX8_river 41 = .ok (.aload_n 0, 1) := by decide +kernel
theorem dX8_river_42 : decode cX8_river 42 = .ok (.getfield 43, 3) := by decide +kernel
theorem dX8_river_45 : decode cX8_river 45 = .ok (.invokevirtual 184, 3) := by decide +kernel
theorem dX8_river_48 : decode cX8_river 48 = .ok (.iload_n 2, 1) := by decide +kernel
theorem dX8_river_49 : decode cX8_river 49 = .ok (.ifCond .ne 15, 3) := by decide +kernel
theorem dX8_river_52 : decode cX8_river 52 = .ok (.aload_n 0, 1) := by decide +kernel
theorem dX8_river_53 : decode cX8_river 53 = .ok (.getfield 43, 3) := by decide +kernel
theorem dX8_river_56 : decode cX8_river 56 = .ok (.getfield 163, 3) := by decide +kernel
theorem dX8_river_59 : decode cX8_river 59 = .ok (.iconst 0, 1) := by decide +kernel
theorem dX8_river_60 : decode cX8_river 60 = .ok (.iaload, 1) := by decide +kernel
theorem dX8_river_61 : decode cX8_river 61 = .ok (.goto 10, 3) := by decide +kernel
theorem dX8_river_64 : decode cX8_river 64 = .ok (.aload_n 0, 1) := by decide +kernel
theorem dX8_river_65 : decode cX8_river 65 = .ok (.getfield 43, 3) := by decide +kernel
theorem dX8_river_68 : decode cX8_river 68 = .ok (.invokevirtual 248, 3) := by decide +kernel
theorem dX8_river_71 : decode cX8_river 71 = .ok (.ireturn, 1) := by decide +kernel
theorem dX8_keep_0 : decode cX8_keep 0 = .ok (.aload_n 0, 1) := by decide +kernel
theorem dX8_keep_1 : decode cX8_keep 1 = .ok (.getfield 57, 3) := by decide +kernel
theorem dX8_keep_4 : decode cX8_keep 4 = .ok (.aload_n 0, 1) := by decide +kernel
theorem dX8_keep_5 : decode cX8_keep 5 = .ok (.getfield 28, 3) := by decide +kernel
theorem dX8_keep_8 : decode cX8_keep 8 = .ok (.invokevirtual 251, 3) := by decide +kernel
theorem dX8_keep_11 : decode cX8_keep 11 = .ok (.ifCond .eq 13, 3) := by decide +kernel
theorem dX8_keep_14 : decode cX8_keep 14 = .ok (.aload_n 0, 1) := by decide +kernel
theorem dX8_keep_15 : decode cX8_keep 15 = .ok (.getfield 57, 3) := by decide +kernel
theorem dX8_keep_18 : decode cX8_keep 18 = .ok (.getfield 254, 3) := by decide +kernel
theorem dX8_keep_21 : decode cX8_keep 21 = .ok (.goto 5, 3) := by decide +kernel
theorem dX8_keep_24 : decode cX8_keep 24 = .ok (.bipush (-3), 2) := by decide +kernel
theorem dX8_keep_26 : decode cX8_keep 26 = .ok (.ireturn, 1) := by decide +kernel
theorem dX8_restore_0 : decode cX8_restore 0 = .ok (.aload_n 0, 1) := by decide +kernel
theorem dX8_restore_1 : decode cX8_restore 1 = .ok (.getfield 57, 3) := by decide +kernel
theorem dX8_restore_4 : decode cX8_restore 4 = .ok (.aload_n 0, 1) := by decide +kernel
theorem dX8_restore_5 : decode cX8_restore 5 = .ok (.getfield 28, 3) := by decide +kernel
theorem dX8_restore_8 : decode cX8_restore 8 = .ok (.invokevirtual 255, 3) := by decide +kernel
theorem dX8_restore_11 : decode cX8_restore 11 = .ok (.ifCond .ne 6, 3) := by decide +kernel
theorem dX8_restore_14 : decode cX8_restore 14 = .ok (.bipush (-2), 2) := by decide +kernel
theorem dX8_restore_16 : decode cX8_restore 16 = .ok (.ireturn, 1) := by decide +kernel
theorem dX8_restore_17 : decode cX8_restore 17 = .ok (.aload_n 0, 1) := by decide +kernel
theorem dX8_restore_18 : decode cX8_restore 18 = .ok (.getfield 50, 3) := by decide +kernel
theorem dX8_restore_21 : decode cX8_restore 21 = .ok (.invokevirtual 97, 3) := by decide +kernel
theorem dX8_restore_24 : decode cX8_restore 24 = .ok (.aload_n 0, 1) := by decide +kernel
theorem dX8_restore_25 : decode cX8_restore 25 = .ok (.getfield 57, 3) := by decide +kernel
theorem dX8_restore_28 : decode cX8_restore 28 = .ok (.getfield 254, 3) := by decide +kernel
theorem dX8_restore_31 : decode cX8_restore 31 = .ok (.ireturn, 1) := by decide +kernel
theorem dX8_count_0 : decode cX8_count 0 = .ok (.iload_n 1, 1) := by decide +kernel
theorem dX8_count_1 : decode cX8_count 1 = .ok (.tableswitch 120 0 8 #[51, 59, 67, 75, 83, 91, 99, 107, 115], 51) := by decide +kernel
theorem dX8_count_52 : decode cX8_count 52 = .ok (.aload_n 0, 1) := by decide +kernel
theorem dX8_count_53 : decode cX8_count 53 = .ok (.getfield 28, 3) := by decide +kernel
theorem dX8_count_56 : decode cX8_count 56 = .ok (.getfield 102, 3) := by decide +kernel
theorem dX8_count_59 : decode cX8_count 59 = .ok (.ireturn, 1) := by decide +kernel
theorem dX8_count_60 : decode cX8_count 60 = .ok (.aload_n 0, 1) := by decide +kernel
theorem dX8_count_61 : decode cX8_count 61 = .ok (.getfield 28, 3) := by decide +kernel
theorem dX8_count_64 : decode cX8_count 64 = .ok (.getfield 148, 3) := by decide +kernel
theorem dX8_count_67 : decode cX8_count 67 = .ok (.ireturn, 1) := by decide +kernel
theorem dX8_count_68 : decode cX8_count 68 = .ok (.aload_n 0, 1) := by decide +kernel
theorem dX8_count_69 : decode cX8_count 69 = .ok (.getfield 28, 3) := by decide +kernel
theorem dX8_count_72 : decode cX8_count 72 = .ok (.getfield 258, 3) := by decide +kernel
theorem dX8_count_75 : decode cX8_count 75 = .ok (.ireturn, 1) := by decide +kernel
theorem dX8_count_76 : decode cX8_count 76 = .ok (.aload_n 0, 1) := by decide +kernel
theorem dX8_count_77 : decode cX8_count 77 = .ok (.getfield 28, 3) := by decide +kernel
theorem dX8_count_80 : decode cX8_count 80 = .ok (.getfield 261, 3) := by decide +kernel
theorem dX8_count_83 : decode cX8_count 83 = .ok (.ireturn, 1) := by decide +kernel
theorem dX8_count_84 : decode cX8_count 84 = .ok (.aload_n 0, 1) := by decide +kernel
theorem dX8_count_85 : decode cX8_count 85 = .ok (.getfield 28, 3) := by decide +kernel
theorem dX8_count_88 : decode cX8_count 88 = .ok (.invokevirtual 264, 3) := by decide +kernel
theorem dX8_count_91 : decode cX8_count 91 = .ok (.ireturn, 1) := by decide +kernel
theorem dX8_count_92 : decode cX8_count 92 = .ok (.aload_n 0, 1) := by decide +kernel
theorem dX8_count_93 : decode cX8_count 93 = .ok (.getfield 64, 3) := by decide +kernel
theorem dX8_count_96 : decode cX8_count 96 = .ok (.getfield 234, 3) := by decide +kernel
theorem dX8_count_99 : decode cX8_count 99 = .ok (.ireturn, 1) := by decide +kernel
theorem dX8_count_100 : decode cX8_count 100 = .ok (.aload_n 0, 1) := by decide +kernel
theorem dX8_count_101 : decode cX8_count 101 = .ok (.getfield 50, 3) := by decide +kernel
theorem dX8_count_104 : decode cX8_count 104 = .ok (.getfield 180, 3) := by decide +kernel
theorem dX8_count_107 : decode cX8_count 107 = .ok (.ireturn, 1) := by decide +kernel
theorem dX8_count_108 : decode cX8_count 108 = .ok (.aload_n 0, 1) := by decide +kernel
theorem dX8_count_109 : decode cX8_count 109 = .ok (.getfield 57, 3) := by decide +kernel
theorem dX8_count_112 : decode cX8_count 112 = .ok (.getfield 254, 3) := by decide +kernel
theorem dX8_count_115 : decode cX8_count 115 = .ok (.ireturn, 1) := by decide +kernel
theorem dX8_count_116 : decode cX8_count 116 = .ok (.aload_n 0, 1) := by decide +kernel
theorem dX8_count_117 : decode cX8_count 117 = .ok (.getfield 13, 3) := by decide +kernel
theorem dX8_count_120 : decode cX8_count 120 = .ok (.ireturn, 1) := by decide +kernel
theorem dX8_count_121 : decode cX8_count 121 = .ok (.iconst (-1), 1) := by decide +kernel
theorem dX8_count_122 : decode cX8_count 122 = .ok (.ireturn, 1) := by decide +kernel
theorem dX8_firstRiver_0 : decode cX8_firstRiver 0 = .ok (.new 32, 3) := by decide +kernel
theorem dX8_firstRiver_3 : decode cX8_firstRiver 3 = .ok (.dup, 1) := by decide +kernel
theorem dX8_firstRiver_4 : decode cX8_firstRiver 4 = .ok (.invokespecial 34, 3) := by decide +kernel
theorem dX8_firstRiver_7 : decode cX8_firstRiver 7 = .ok (.astore_n 0, 1) := by decide +kernel
theorem dX8_firstRiver_8 : decode cX8_firstRiver 8 = .ok (.ldc_w 267, 3) := by decide +kernel
theorem dX8_firstRiver_11 : decode cX8_firstRiver 11 = .ok (.invokevirtual 269, 3) := by decide +kernel
theorem dX8_firstRiver_14 : decode cX8_firstRiver 14 = .ok (.astore_n 1, 1) := by decide +kernel
theorem dX8_firstRiver_15 : decode cX8_firstRiver 15 = .ok (.new 17, 3) := by decide +kernel
theorem dX8_firstRiver_18 : decode cX8_firstRiver 18 = .ok (.dup, 1) := by decide +kernel
theorem dX8_firstRiver_19 : decode cX8_firstRiver 19 = .ok (.invokespecial 19, 3) := by decide +kernel
theorem dX8_firstRiver_22 : decode cX8_firstRiver 22 = .ok (.aload_n 1, 1) := by decide +kernel
theorem dX8_firstRiver_23 : decode cX8_firstRiver 23 = .ok (.aload_n 1, 1) := by decide +kernel
theorem dX8_firstRiver_24 : decode cX8_firstRiver 24 = .ok (.arraylength, 1) := by decide +kernel
theorem dX8_firstRiver_25 : decode cX8_firstRiver 25 = .ok (.aload_n 0, 1) := by decide +kernel
theorem dX8_firstRiver_26 : decode cX8_firstRiver 26 = .ok (.invokevirtual 86, 3) := by decide +kernel
theorem dX8_firstRiver_29 : decode cX8_firstRiver 29 = .ok (.pop, 1) := by decide +kernel
theorem dX8_firstRiver_30 : decode cX8_firstRiver 30 = .ok (.aload_n 0, 1) := by decide +kernel
theorem dX8_firstRiver_31 : decode cX8_firstRiver 31 = .ok (.invokevirtual 94, 3) := by decide +kernel
theorem dX8_firstRiver_34 : decode cX8_firstRiver 34 = .ok (.aload_n 0, 1) := by decide +kernel
theorem dX8_firstRiver_35 : decode cX8_firstRiver 35 = .ok (.areturn, 1) := by decide +kernel
theorem dX8_within_0 : decode cX8_within 0 = .ok (.iload_n 0, 1) := by decide +kernel
theorem dX8_within_1 : decode cX8_within 1 = .ok (.iload_n 1, 1) := by decide +kernel
theorem dX8_within_2 : decode cX8_within 2 = .ok (.if_icmp .lt 12, 3) := by decide +kernel
theorem dX8_within_5 : decode cX8_within 5 = .ok (.iload_n 0, 1) := by decide +kernel
theorem dX8_within_6 : decode cX8_within 6 = .ok (.iload_n 2, 1) := by decide +kernel
theorem dX8_within_7 : decode cX8_within 7 = .ok (.if_icmp .gt 7, 3) := by decide +kernel
theorem dX8_within_10 : decode cX8_within 10 = .ok (.iconst 1, 1) := by decide +kernel
theorem dX8_within_11 : decode cX8_within 11 = .ok (.goto 4, 3) := by decide +kernel
theorem dX8_within_14 : decode cX8_within 14 = .ok (.iconst 0, 1) := by decide +kernel
theorem dX8_within_15 : decode cX8_within 15 = .ok (.ireturn, 1) := by decide +kernel
theorem dX8_commonDivisor_0 : decode cX8_commonDivisor 0 = .ok (.iload_n 0, 1) := by decide +kernel
theorem dX8_commonDivisor_1 : decode cX8_commonDivisor 1 = .ok (.istore_n 2, 1) := by decide +kernel
theorem dX8_commonDivisor_2 : decode cX8_commonDivisor 2 = .ok (.iload_n 1, 1) := by decide +kernel
theorem dX8_commonDivisor_3 : decode cX8_commonDivisor 3 = .ok (.istore_n 3, 1) := by decide +kernel
theorem dX8_commonDivisor_4 : decode cX8_commonDivisor 4 = .ok (.iconst 0, 1) := by decide +kernel
theorem dX8_commonDivisor_5 : decode cX8_commonDivisor 5 = .ok (.istore 4, 2) := by decide +kernel
theorem dX8_commonDivisor_7 : decode cX8_commonDivisor 7 = .ok (.iload 4, 2) := by decide +kernel
theorem dX8_commonDivisor_9 : decode cX8_commonDivisor 9 = .ok (.bipush 64, 2) := by decide +kernel
theorem dX8_commonDivisor_11 : decode cX8_commonDivisor 11 = .ok (.if_icmp .ge 23, 3) := by decide +kernel
theorem dX8_commonDivisor_14 : decode cX8_commonDivisor 14 = .ok (.iload_n 3, 1) := by decide +kernel
theorem dX8_commonDivisor_15 : decode cX8_commonDivisor 15 = .ok (.ifCond .eq 19, 3) := by decide +kernel
theorem dX8_commonDivisor_18 : decode cX8_commonDivisor 18 = .ok (.iload_n 2, 1) := by decide +kernel
theorem dX8_commonDivisor_19 : decode cX8_commonDivisor 19 = .ok (.iload_n 3, 1) := by decide +kernel
theorem dX8_commonDivisor_20 : decode cX8_commonDivisor 20 = .ok (.irem, 1) := by decide +kernel
theorem dX8_commonDivisor_21 : decode cX8_commonDivisor 21 = .ok (.istore 5, 2) := by decide +kernel
theorem dX8_commonDivisor_23 : decode cX8_commonDivisor 23 = .ok (.iload_n 3, 1) := by decide +kernel
theorem dX8_commonDivisor_24 : decode cX8_commonDivisor 24 = .ok (.istore_n 2, 1) := by decide +kernel
theorem dX8_commonDivisor_25 : decode cX8_commonDivisor 25 = .ok (.iload 5, 2) := by decide +kernel
theorem dX8_commonDivisor_27 : decode cX8_commonDivisor 27 = .ok (.istore_n 3, 1) := by decide +kernel
theorem dX8_commonDivisor_28 : decode cX8_commonDivisor 28 = .ok (.iinc 4 1, 3) := by decide +kernel
theorem dX8_commonDivisor_31 : decode cX8_commonDivisor 31 = .ok (.goto (-24), 3) := by decide +kernel
theorem dX8_commonDivisor_34 : decode cX8_commonDivisor 34 = .ok (.iload_n 2, 1) := by decide +kernel
theorem dX8_commonDivisor_35 : decode cX8_commonDivisor 35 = .ok (.ireturn, 1) := by decide +kernel
theorem dX8_raceAsItIs_0 : decode cX8_raceAsItIs 0 = .ok (.aload_n 0, 1) := by decide +kernel
theorem dX8_raceAsItIs_1 : decode cX8_raceAsItIs 1 = .ok (.getfield 43, 3) := by decide +kernel
theorem dX8_raceAsItIs_4 : decode cX8_raceAsItIs 4 = .ok (.aload_n 0, 1) := by decide +kernel
theorem dX8_raceAsItIs_5 : decode cX8_raceAsItIs 5 = .ok (.getfield 28, 3) := by decide +kernel
theorem dX8_raceAsItIs_8 : decode cX8_raceAsItIs 8 = .ok (.invokevirtual 134, 3) := by decide +kernel
theorem dX8_raceAsItIs_11 : decode cX8_raceAsItIs 11 = .ok (.aload_n 0, 1) := by decide +kernel
theorem dX8_raceAsItIs_12 : decode cX8_raceAsItIs 12 = .ok (.getfield 43, 3) := by decide +kernel
theorem dX8_raceAsItIs_15 : decode cX8_raceAsItIs 15 = .ok (.invokevirtual 184, 3) := by decide +kernel
theorem dX8_raceAsItIs_18 : decode cX8_raceAsItIs 18 = .ok (.return_, 1) := by decide +kernel
theorem dX8_changeCarrier_0 : decode cX8_changeCarrier 0 = .ok (.aload_n 0, 1) := by decide +kernel
theorem dX8_changeCarrier_1 : decode cX8_changeCarrier 1 = .ok (.getfield 28, 3) := by decide +kernel
theorem dX8_changeCarrier_4 : decode cX8_changeCarrier 4 = .ok (.getfield 122, 3) := by decide +kernel
theorem dX8_changeCarrier_7 : decode cX8_changeCarrier 7 = .ok (.iload_n 1, 1) := by decide +kernel
theorem dX8_changeCarrier_8 : decode cX8_changeCarrier 8 = .ok (.iaload, 1) := by decide +kernel
theorem dX8_changeCarrier_9 : decode cX8_changeCarrier 9 = .ok (.istore_n 3, 1) := by decide +kernel
theorem dX8_changeCarrier_10 : decode cX8_changeCarrier 10 = .ok (.aload_n 0, 1) := by decide +kernel
theorem dX8_changeCarrier_11 : decode cX8_changeCarrier 11 = .ok (.getfield 50, 3) := by decide +kernel
theorem dX8_changeCarrier_14 : decode cX8_changeCarrier 14 = .ok (.aload_n 0, 1) := by decide +kernel
theorem dX8_changeCarrier_15 : decode cX8_changeCarrier 15 = .ok (.getfield 28, 3) := by decide +kernel
theorem dX8_changeCarrier_18 : decode cX8_changeCarrier 18 = .ok (.iload_n 1, 1) := by decide +kernel
theorem dX8_changeCarrier_19 : decode cX8_changeCarrier 19 = .ok (.invokevirtual 166, 3) := by decide +kernel
theorem dX8_changeCarrier_22 : decode cX8_changeCarrier 22 = .ok (.aload_n 0, 1) := by decide +kernel
theorem dX8_changeCarrier_23 : decode cX8_changeCarrier 23 = .ok (.getfield 28, 3) := by decide +kernel
theorem dX8_changeCarrier_26 : decode cX8_changeCarrier 26 = .ok (.getfield 122, 3) := by decide +kernel
theorem dX8_changeCarrier_29 : decode cX8_changeCarrier 29 = .ok (.iload_n 1, 1) := by decide +kernel
theorem dX8_changeCarrier_30 : decode cX8_changeCarrier 30 = .ok (.iload_n 2, 1) := by decide +kernel
theorem dX8_changeCarrier_31 : decode cX8_changeCarrier 31 = .ok (.iastore, 1) := by decide +kernel
theorem dX8_changeCarrier_32 : decode cX8_changeCarrier 32 = .ok (.iload_n 3, 1) := by decide +kernel
theorem dX8_changeCarrier_33 : decode cX8_changeCarrier 33 = .ok (.ireturn, 1) := by decide +kernel
theorem dX8_rankRidingOn_0 : decode cX8_rankRidingOn 0 = .ok (.aload_n 0, 1) := by decide +kernel
theorem dX8_rankRidingOn_1 : decode cX8_rankRidingOn 1 = .ok (.getfield 43, 3) := by decide +kernel
theorem dX8_rankRidingOn_4 : decode cX8_rankRidingOn 4 = .ok (.getfield 275, 3) := by decide +kernel
theorem dX8_rankRidingOn_7 : decode cX8_rankRidingOn 7 = .ok (.iload_n 1, 1) := by decide +kernel
theorem dX8_rankRidingOn_8 : decode cX8_rankRidingOn 8 = .ok (.iload_n 2, 1) := by decide +kernel
theorem dX8_rankRidingOn_9 : decode cX8_rankRidingOn 9 = .ok (.iastore, 1) := by decide +kernel
theorem dX8_rankRidingOn_10 : decode cX8_rankRidingOn 10 = .ok (.aload_n 0, 1) := by decide +kernel
theorem dX8_rankRidingOn_11 : decode cX8_rankRidingOn 11 = .ok (.getfield 43, 3) := by decide +kernel
theorem dX8_rankRidingOn_14 : decode cX8_rankRidingOn 14 = .ok (.invokevirtual 184, 3) := by decide +kernel
theorem dX8_rankRidingOn_17 : decode cX8_rankRidingOn 17 = .ok (.aload_n 0, 1) := by decide +kernel
theorem dX8_rankRidingOn_18 : decode cX8_rankRidingOn 18 = .ok (.getfield 43, 3) := by decide +kernel
theorem dX8_rankRidingOn_21 : decode cX8_rankRidingOn 21 = .ok (.getfield 160, 3) := by decide +kernel
theorem dX8_rankRidingOn_24 : decode cX8_rankRidingOn 24 = .ok (.iload_n 1, 1) := by decide +kernel
theorem dX8_rankRidingOn_25 : decode cX8_rankRidingOn 25 = .ok (.iaload, 1) := by decide +kernel
theorem dX8_rankRidingOn_26 : decode cX8_rankRidingOn 26 = .ok (.ireturn, 1) := by decide +kernel
theorem dX8_lightOnes_0 : decode cX8_lightOnes 0 = .ok (.iconst 0, 1) := by decide +kernel
theorem dX8_lightOnes_1 : decode cX8_lightOnes 1 = .ok (.istore_n 2, 1) := by decide +kernel
theorem dX8_lightOnes_2 : decode cX8_lightOnes 2 = .ok (.iconst 0, 1) := by decide +kernel
theorem dX8_lightOnes_3 : decode cX8_lightOnes 3 = .ok (.istore_n 3, 1) := by decide +kernel
theorem dX8_lightOnes_4 : decode cX8_lightOnes 4 = .ok (.iload_n 3, 1) := by decide +kernel
theorem dX8_lightOnes_5 : decode cX8_lightOnes 5 = .ok (.aload_n 0, 1) := by decide +kernel
theorem dX8_lightOnes_6 : decode cX8_lightOnes 6 = .ok (.getfield 28, 3) := by decide +kernel
theorem dX8_lightOnes_9 : decode cX8_lightOnes 9 = .ok (.getfield 102, 3) := by decide +kernel
theorem dX8_lightOnes_12 : decode cX8_lightOnes 12 = .ok (.if_icmp .ge 57, 3) := by decide +kernel
theorem dX8_lightOnes_15 : decode cX8_lightOnes 15 = .ok (.iload_n 2, 1) := by decide +kernel
theorem dX8_lightOnes_16 : decode cX8_lightOnes 16 = .ok (.aload_n 0, 1) := by decide +kernel
theorem dX8_lightOnes_17 : decode cX8_lightOnes 17 = .ok (.getfield 28, 3) := by decide +kernel
theorem dX8_lightOnes_20 : decode cX8_lightOnes 20 = .ok (.getfield 125, 3) := by decide +kernel
theorem dX8_lightOnes_23 : decode cX8_lightOnes 23 = .ok (.iload_n 3, 1) := by decide +kernel
theorem dX8_lightOnes_24 : decode cX8_lightOnes 24 = .ok (.iaload, 1) := by decide +kernel
theorem dX8_lightOnes_25 : decode cX8_lightOnes 25 = .ok (.bipush (-4), 2) := by decide +kernel
theorem dX8_lightOnes_27 : decode cX8_lightOnes 27 = .ok (.if_icmp .ne 33, 3) := by decide +kernel
theorem dX8_lightOnes_30 : decode cX8_lightOnes 30 = .ok (.aload_n 0, 1) := by decide +kernel
theorem dX8_lightOnes_31 : decode cX8_lightOnes 31 = .ok (.getfield 28, 3) := by decide +kernel
theorem dX8_lightOnes_34 : decode cX8_lightOnes 34 = .ok (.getfield 116, 3) := by decide +kernel
theorem dX8_lightOnes_37 : decode cX8_lightOnes 37 = .ok (.iload_n 3, 1) := by decide +kernel
theorem dX8_lightOnes_38 : decode cX8_lightOnes 38 = .ok (.iaload, 1) := by decide +kernel
theorem dX8_lightOnes_39 : decode cX8_lightOnes 39 = .ok (.iconst 1, 1) := by decide +kernel
theorem dX8_lightOnes_40 : decode cX8_lightOnes 40 = .ok (.if_icmp .ne 20, 3) := by decide +kernel
theorem dX8_lightOnes_43 : decode cX8_lightOnes 43 = .ok (.aload_n 0, 1) := by decide +kernel
theorem dX8_lightOnes_44 : decode cX8_lightOnes 44 = .ok (.getfield 28, 3) := by decide +kernel
theorem dX8_lightOnes_47 : decode cX8_lightOnes 47 = .ok (.getfield 113, 3) := by decide +kernel
theorem dX8_lightOnes_50 : decode cX8_lightOnes 50 = .ok (.iload_n 3, 1) := by decide +kernel
theorem dX8_lightOnes_51 : decode cX8_lightOnes 51 = .ok (.iaload, 1) := by decide +kernel
theorem dX8_lightOnes_52 : decode cX8_lightOnes 52 = .ok (.iload_n 1, 1) := by decide +kernel
theorem dX8_lightOnes_53 : decode cX8_lightOnes 53 = .ok (.if_icmp .ne 7, 3) := by decide +kernel
theorem dX8_lightOnes_56 : decode cX8_lightOnes 56 = .ok (.iconst 1, 1) := by decide +kernel
theorem dX8_lightOnes_57 : decode cX8_lightOnes 57 = .ok (.goto 4, 3) := by decide +kernel
theorem dX8_lightOnes_60 : decode cX8_lightOnes 60 = .ok (.iconst 0, 1) := by decide +kernel
theorem dX8_lightOnes_61 : decode cX8_lightOnes 61 = .ok (.iadd, 1) := by decide +kernel
theorem dX8_lightOnes_62 : decode cX8_lightOnes 62 = .ok (.istore_n 2, 1) := by decide +kernel
theorem dX8_lightOnes_63 : decode cX8_lightOnes 63 = .ok (.iinc 3 1, 3) := by decide +kernel
theorem dX8_lightOnes_66 : decode cX8_lightOnes 66 = .ok (.goto (-62), 3) := by decide +kernel
theorem dX8_lightOnes_69 : decode cX8_lightOnes 69 = .ok (.iload_n 2, 1) := by decide +kernel
theorem dX8_lightOnes_70 : decode cX8_lightOnes 70 = .ok (.ireturn, 1) := by decide +kernel
theorem dX8_bearersOf_0 : decode cX8_bearersOf 0 = .ok (.iconst 0, 1) := by decide +kernel
theorem dX8_bearersOf_1 : decode cX8_bearersOf 1 = .ok (.istore_n 2, 1) := by decide +kernel
theorem dX8_bearersOf_2 : decode cX8_bearersOf 2 = .ok (.iconst 0, 1) := by decide +kernel
theorem dX8_bearersOf_3 : decode cX8_bearersOf 3 = .ok (.istore_n 3, 1) := by decide +kernel
theorem dX8_bearersOf_4 : decode cX8_bearersOf 4 = .ok (.iload_n 3, 1) := by decide +kernel
theorem dX8_bearersOf_5 : decode cX8_bearersOf 5 = .ok (.aload_n 0, 1) := by decide +kernel
theorem dX8_bearersOf_6 : decode cX8_bearersOf 6 = .ok (.getfield 28, 3) := by decide +kernel
theorem dX8_bearersOf_9 : decode cX8_bearersOf 9 = .ok (.getfield 102, 3) := by decide +kernel
theorem dX8_bearersOf_12 : decode cX8_bearersOf 12 = .ok (.if_icmp .ge 57, 3) := by decide +kernel
theorem dX8_bearersOf_15 : decode cX8_bearersOf 15 = .ok (.iload_n 2, 1) := by decide +kernel
theorem dX8_bearersOf_16 : decode cX8_bearersOf 16 = .ok (.aload_n 0, 1) := by decide +kernel
theorem dX8_bearersOf_17 : decode cX8_bearersOf 17 = .ok (.getfield 28, 3) := by decide +kernel
theorem dX8_bearersOf_20 : decode cX8_bearersOf 20 = .ok (.getfield 125, 3) := by decide +kernel
theorem dX8_bearersOf_23 : decode cX8_bearersOf 23 = .ok (.iload_n 3, 1) := by decide +kernel
theorem dX8_bearersOf_24 : decode cX8_bearersOf 24 = .ok (.iaload, 1) := by decide +kernel
theorem dX8_bearersOf_25 : decode cX8_bearersOf 25 = .ok (.bipush (-4), 2) := by decide +kernel
theorem dX8_bearersOf_27 : decode cX8_bearersOf 27 = .ok (.if_icmp .ne 33, 3) := by decide +kernel
theorem dX8_bearersOf_30 : decode cX8_bearersOf 30 = .ok (.aload_n 0, 1) := by decide +kernel
theorem dX8_bearersOf_31 : decode cX8_bearersOf 31 = .ok (.getfield 28, 3) := by decide +kernel
theorem dX8_bearersOf_34 : decode cX8_bearersOf 34 = .ok (.getfield 116, 3) := by decide +kernel
theorem dX8_bearersOf_37 : decode cX8_bearersOf 37 = .ok (.iload_n 3, 1) := by decide +kernel
theorem dX8_bearersOf_38 : decode cX8_bearersOf 38 = .ok (.iaload, 1) := by decide +kernel
theorem dX8_bearersOf_39 : decode cX8_bearersOf 39 = .ok (.iconst 1, 1) := by decide +kernel
theorem dX8_bearersOf_40 : decode cX8_bearersOf 40 = .ok (.if_icmp .eq 20, 3) := by decide +kernel
theorem dX8_bearersOf_43 : decode cX8_bearersOf 43 = .ok (.aload_n 0, 1) := by decide +kernel
theorem dX8_bearersOf_44 : decode cX8_bearersOf 44 = .ok (.getfield 28, 3) := by decide +kernel
theorem dX8_bearersOf_47 : decode cX8_bearersOf 47 = .ok (.getfield 113, 3) := by decide +kernel
theorem dX8_bearersOf_50 : decode cX8_bearersOf 50 = .ok (.iload_n 3, 1) := by decide +kernel
theorem dX8_bearersOf_51 : decode cX8_bearersOf 51 = .ok (.iaload, 1) := by decide +kernel
theorem dX8_bearersOf_52 : decode cX8_bearersOf 52 = .ok (.iload_n 1, 1) := by decide +kernel
theorem dX8_bearersOf_53 : decode cX8_bearersOf 53 = .ok (.if_icmp .le 7, 3) := by decide +kernel
theorem dX8_bearersOf_56 : decode cX8_bearersOf 56 = .ok (.iconst 1, 1) := by decide +kernel
theorem dX8_bearersOf_57 : decode cX8_bearersOf 57 = .ok (.goto 4, 3) := by decide +kernel
theorem dX8_bearersOf_60 : decode cX8_bearersOf 60 = .ok (.iconst 0, 1) := by decide +kernel
theorem dX8_bearersOf_61 : decode cX8_bearersOf 61 = .ok (.iadd, 1) := by decide +kernel
theorem dX8_bearersOf_62 : decode cX8_bearersOf 62 = .ok (.istore_n 2, 1) := by decide +kernel
theorem dX8_bearersOf_63 : decode cX8_bearersOf 63 = .ok (.iinc 3 1, 3) := by decide +kernel
theorem dX8_bearersOf_66 : decode cX8_bearersOf 66 = .ok (.goto (-62), 3) := by decide +kernel
theorem dX8_bearersOf_69 : decode cX8_bearersOf 69 = .ok (.iload_n 2, 1) := by decide +kernel
theorem dX8_bearersOf_70 : decode cX8_bearersOf 70 = .ok (.ireturn, 1) := by decide +kernel
theorem dX8_wouldRather_0 : decode cX8_wouldRather 0 = .ok (.aload_n 0, 1) := by decide +kernel
theorem dX8_wouldRather_1 : decode cX8_wouldRather 1 = .ok (.getfield 28, 3) := by decide +kernel
theorem dX8_wouldRather_4 : decode cX8_wouldRather 4 = .ok (.getfield 276, 3) := by decide +kernel
theorem dX8_wouldRather_7 : decode cX8_wouldRather 7 = .ok (.iload_n 1, 1) := by decide +kernel
theorem dX8_wouldRather_8 : decode cX8_wouldRather 8 = .ok (.iaload, 1) := by decide +kernel
theorem dX8_wouldRather_9 : decode cX8_wouldRather 9 = .ok (.istore_n 3, 1) := by decide +kernel
theorem dX8_wouldRather_10 : decode cX8_wouldRather 10 = .ok (.iload_n 3, 1) := by decide +kernel
theorem dX8_wouldRather_11 : decode cX8_wouldRather 11 = .ok (.bipush (-4), 2) := by decide +kernel
theorem dX8_wouldRather_13 : decode cX8_wouldRather 13 = .ok (.if_icmp .eq 38, 3) := by decide +kernel
theorem dX8_wouldRather_16 : decode cX8_wouldRather 16 = .ok (.aload_n 0, 1) := by decide +kernel
theorem dX8_wouldRather_17 : decode cX8_wouldRather 17 = .ok (.getfield 43, 3) := by decide +kernel
theorem dX8_wouldRather_20 : decode cX8_wouldRather 20 = .ok (.getfield 160, 3) := by decide +kernel
theorem dX8_wouldRather_23 : decode cX8_wouldRather 23 = .ok (.iload_n 2, 1) := by decide +kernel
theorem dX8_wouldRather_24 : decode cX8_wouldRather 24 = .ok (.iaload, 1) := by decide +kernel
theorem dX8_wouldRather_25 : decode cX8_wouldRather 25 = .ok (.iload_n 3, 1) := by decide +kernel
theorem dX8_wouldRather_26 : decode cX8_wouldRather 26 = .ok (.isub, 1) := by decide +kernel
theorem dX8_wouldRather_27 : decode cX8_wouldRather 27 = .ok (.invokestatic 279, 3) := by decide +kernel
theorem dX8_wouldRather_30 : decode cX8_wouldRather 30 = .ok (.aload_n 0, 1) := by decide +kernel
theorem dX8_wouldRather_31 : decode cX8_wouldRather 31 = .ok (.getfield 43, 3) := by decide +kernel
theorem dX8_wouldRather_34 : decode cX8_wouldRather 34 = .ok (.getfield 160, 3) := by decide +kernel
theorem dX8_wouldRather_37 : decode cX8_wouldRather 37 = .ok (.iload_n 1, 1) := by decide +kernel
theorem dX8_wouldRather_38 : decode cX8_wouldRather 38 = .ok (.iaload, 1) := by decide +kernel
theorem dX8_wouldRather_39 : decode cX8_wouldRather 39 = .ok (.iload_n 3, 1) := by decide +kernel
theorem dX8_wouldRather_40 : decode cX8_wouldRather 40 = .ok (.isub, 1) := by decide +kernel
theorem dX8_wouldRather_41 : decode cX8_wouldRather 41 = .ok (.invokestatic 279, 3) := by decide +kernel
theorem dX8_wouldRather_44 : decode cX8_wouldRather 44 = .ok (.if_icmp .ge 7, 3) := by decide +kernel
theorem dX8_wouldRather_47 : decode cX8_wouldRather 47 = .ok (.iconst 1, 1) := by decide +kernel
theorem dX8_wouldRather_48 : decode cX8_wouldRather 48 = .ok (.goto 4, 3) := by decide +kernel
theorem dX8_wouldRather_51 : decode cX8_wouldRather 51 = .ok (.iconst 0, 1) := by decide +kernel
theorem dX8_wouldRather_52 : decode cX8_wouldRather 52 = .ok (.ireturn, 1) := by decide +kernel
theorem dX8_chancesOfFirst_0 : decode cX8_chancesOfFirst 0 = .ok (.aload_n 0, 1) := by decide +kernel
theorem dX8_chancesOfFirst_1 : decode cX8_chancesOfFirst 1 = .ok (.getfield 43, 3) := by decide +kernel
theorem dX8_chancesOfFirst_4 : decode cX8_chancesOfFirst 4 = .ok (.aload_n 0, 1) := by decide +kernel
theorem dX8_chancesOfFirst_5 : decode cX8_chancesOfFirst 5 = .ok (.getfield 28, 3) := by decide +kernel
theorem dX8_chancesOfFirst_8 : decode cX8_chancesOfFirst 8 = .ok (.invokevirtual 134, 3) := by decide +kernel
theorem dX8_chancesOfFirst_11 : decode cX8_chancesOfFirst 11 = .ok (.iconst 0, 1) := by decide +kernel
theorem dX8_chancesOfFirst_12 : decode cX8_chancesOfFirst 12 = .ok (.istore 4, 2) := by decide +kernel
theorem dX8_chancesOfFirst_14 : decode cX8_chancesOfFirst 14 = .ok (.iconst 0, 1) := by decide +kernel
theorem dX8_chancesOfFirst_15 : decode cX8_chancesOfFirst 15 = .ok (.istore 5, 2) := by decide +kernel
theorem dX8_chancesOfFirst_17 : decode cX8_chancesOfFirst 17 = .ok (.iload 5, 2) := by decide +kernel
theorem dX8_chancesOfFirst_19 : decode cX8_chancesOfFirst 19 = .ok (.iconst 1, 1) := by decide +kernel
theorem dX8_chancesOfFirst_20 : decode cX8_chancesOfFirst 20 = .ok (.iload_n 2, 1) := by decide +kernel
theorem dX8_chancesOfFirst_21 : decode cX8_chancesOfFirst 21 = .ok (.ishl, 1) := by decide +kernel
theorem dX8_chancesOfFirst_22 : decode cX8_chancesOfFirst 22 = .ok (.if_icmp .ge 96, 3) := by decide +kernel
theorem dX8_chancesOfFirst_25 : decode cX8_chancesOfFirst 25 = .ok (.iconst 1, 1) := by decide +kernel
theorem dX8_chancesOfFirst_26 : decode cX8_chancesOfFirst 26 = .ok (.istore 6, 2) := by decide +kernel
theorem dX8_chancesOfFirst_28 : decode cX8_chancesOfFirst 28 = .ok (.iconst 0, 1) := by decide +kernel
theorem dX8_chancesOfFirst_29 : decode cX8_chancesOfFirst 29 = .ok (.istore 7, 2) := by decide +kernel
theorem dX8_chancesOfFirst_31 : decode cX8_chancesOfFirst 31 = .ok (.iload 7, 2) := by decide +kernel
theorem dX8_chancesOfFirst_33 : decode cX8_chancesOfFirst 33 = .ok (.iload_n 2, 1) := by decide +kernel
theorem dX8_chancesOfFirst_34 : decode cX8_chancesOfFirst 34 = .ok (.if_icmp .ge 33, 3) := by decide +kernel
theorem dX8_chancesOfFirst_37 : decode cX8_chancesOfFirst 37 = .ok (.iload 6, 2) := by decide +kernel
theorem dX8_chancesOfFirst_39 : decode cX8_chancesOfFirst 39 = .ok (.iload 5, 2) := by decide +kernel
theorem dX8_chancesOfFirst_41 : decode cX8_chancesOfFirst 41 = .ok (.iload 7, 2) := by decide +kernel
theorem dX8_chancesOfFirst_43 : decode cX8_chancesOfFirst 43 = .ok (.ishr, 1) := by decide +kernel
theorem dX8_chancesOfFirst_44 : decode cX8_chancesOfFirst 44 = .ok (.iconst 1, 1) := by decide +kernel
theorem dX8_chancesOfFirst_45 : decode cX8_chancesOfFirst 45 = .ok (.iand, 1) := by decide +kernel
theorem dX8_chancesOfFirst_46 : decode cX8_chancesOfFirst 46 = .ok (.iconst 1, 1) := by decide +kernel
theorem dX8_chancesOfFirst_47 : decode cX8_chancesOfFirst 47 = .ok (.if_icmp .ne 7, 3) := by decide +kernel
theorem dX8_chancesOfFirst_50 : decode cX8_chancesOfFirst 50 = .ok (.iload_n 3, 1) := by decide +kernel
theorem dX8_chancesOfFirst_51 : decode cX8_chancesOfFirst 51 = .ok (.goto 7, 3) := by decide +kernel
theorem dX8_chancesOfFirst_54 : decode cX8_chancesOfFirst 54 = .ok (.bipush 10, 2) := by decide +kernel
theorem dX8_chancesOfFirst_56 : decode cX8_chancesOfFirst 56 = .ok (.iload_n 3, 1) := by decide +kernel
theorem dX8_chancesOfFirst_57 : decode cX8_chancesOfFirst 57 = .ok (.isub, 1) := by decide +kernel
theorem dX8_chancesOfFirst_58 : decode cX8_chancesOfFirst 58 = .ok (.imul, 1) := by decide +kernel
theorem dX8_chancesOfFirst_59 : decode cX8_chancesOfFirst 59 = .ok (.istore 6, 2) := by decide +kernel
theorem dX8_chancesOfFirst_61 : decode cX8_chancesOfFirst 61 = .ok (.iinc 7 1, 3) := by decide +kernel
theorem dX8_chancesOfFirst_64 : decode cX8_chancesOfFirst 64 = .ok (.goto (-33), 3) := by decide +kernel
theorem dX8_chancesOfFirst_67 : decode cX8_chancesOfFirst 67 = .ok (.iload 6, 2) := by decide +kernel
theorem dX8_chancesOfFirst_69 : decode cX8_chancesOfFirst 69 = .ok (.ifCond .le 43, 3) := by decide +kernel
theorem dX8_chancesOfFirst_72 : decode cX8_chancesOfFirst 72 = .ok (.aload_n 0, 1) := by decide +kernel
theorem dX8_chancesOfFirst_73 : decode cX8_chancesOfFirst 73 = .ok (.getfield 43, 3) := by decide +kernel
theorem dX8_chancesOfFirst_76 : decode cX8_chancesOfFirst 76 = .ok (.iload 5, 2) := by decide +kernel
theorem dX8_chancesOfFirst_78 : decode cX8_chancesOfFirst 78 = .ok (.putfield 282, 3) := by decide +kernel
theorem dX8_chancesOfFirst_81 : decode cX8_chancesOfFirst 81 = .ok (.aload_n 0, 1) := by decide +kernel
theorem dX8_chancesOfFirst_82 : decode cX8_chancesOfFirst 82 = .ok (.getfield 43, 3) := by decide +kernel
theorem dX8_chancesOfFirst_85 : decode cX8_chancesOfFirst 85 = .ok (.invokevirtual 184, 3) := by decide +kernel
theorem dX8_chancesOfFirst_88 : decode cX8_chancesOfFirst 88 = .ok (.iload 4, 2) := by decide +kernel
theorem dX8_chancesOfFirst_90 : decode cX8_chancesOfFirst 90 = .ok (.aload_n 0, 1) := by decide +kernel
theorem dX8_chancesOfFirst_91 : decode cX8_chancesOfFirst 91 = .ok (.getfield 43, 3) := by decide +kernel
theorem dX8_chancesOfFirst_94 : decode cX8_chancesOfFirst 94 = .ok (.getfield 163, 3) := by decide +kernel
theorem dX8_chancesOfFirst_97 : decode cX8_chancesOfFirst 97 = .ok (.iconst 0, 1) := by decide +kernel
theorem dX8_chancesOfFirst_98 : decode cX8_chancesOfFirst 98 = .ok (.iaload, 1) := by decide +kernel
theorem dX8_chancesOfFirst_99 : decode cX8_chancesOfFirst 99 = .ok (.iload_n 1, 1) := by decide +kernel
theorem dX8_chancesOfFirst_100 : decode cX8_chancesOfFirst 100 = .ok (.if_icmp .ne 8, 3) := by decide +kernel
theorem dX8_chancesOfFirst_103 : decode cX8_chancesOfFirst 103 = .ok (.iload 6, 2) := by decide +kernel
theorem dX8_chancesOfFirst_105 : decode cX8_chancesOfFirst 105 = .ok (.goto 4, 3) := by decide +kernel
theorem dX8_chancesOfFirst_108 : decode cX8_chancesOfFirst 108 = .ok (.iconst 0, 1) := by decide +kernel
theorem dX8_chancesOfFirst_109 : decode cX8_chancesOfFirst 109 = .ok (.iadd, 1) := by decide +kernel
theorem dX8_chancesOfFirst_110 : decode cX8_chancesOfFirst 110 = .ok (.istore 4, 2) := by decide +kernel
theorem dX8_chancesOfFirst_112 : decode cX8_chancesOfFirst 112 = .ok (.iinc 5 1, 3) := by decide +kernel
theorem dX8_chancesOfFirst_115 : decode cX8_chancesOfFirst 115 = .ok (.goto (-98), 3) := by decide +kernel
theorem dX8_chancesOfFirst_118 : decode cX8_chancesOfFirst 118 = .ok (.iload 4, 2) := by decide +kernel
theorem dX8_chancesOfFirst_120 : decode cX8_chancesOfFirst 120 = .ok (.ireturn, 1) := by decide +kernel
theorem dX8_explains_0 : decode cX8_explains 0 = .ok (.aload_n 0, 1) := by decide +kernel
theorem dX8_explains_1 : decode cX8_explains 1 = .ok (.getfield 43, 3) := by decide +kernel
theorem dX8_explains_4 : decode cX8_explains 4 = .ok (.getfield 275, 3) := by decide +kernel
theorem dX8_explains_7 : decode cX8_explains 7 = .ok (.iload_n 1, 1) := by decide +kernel
theorem dX8_explains_8 : decode cX8_explains 8 = .ok (.iload_n 2, 1) := by decide +kernel
theorem dX8_explains_9 : decode cX8_explains 9 = .ok (.iastore, 1) := by decide +kernel
theorem dX8_explains_10 : decode cX8_explains 10 = .ok (.aload_n 0, 1) := by decide +kernel
theorem dX8_explains_11 : decode cX8_explains 11 = .ok (.getfield 43, 3) := by decide +kernel
theorem dX8_explains_14 : decode cX8_explains 14 = .ok (.invokevirtual 184, 3) := by decide +kernel
theorem dX8_explains_17 : decode cX8_explains 17 = .ok (.aload_n 0, 1) := by decide +kernel
theorem dX8_explains_18 : decode cX8_explains 18 = .ok (.getfield 43, 3) := by decide +kernel
theorem dX8_explains_21 : decode cX8_explains 21 = .ok (.getfield 275, 3) := by decide +kernel
theorem dX8_explains_24 : decode cX8_explains 24 = .ok (.iload_n 1, 1) := by decide +kernel
theorem dX8_explains_25 : decode cX8_explains 25 = .ok (.bipush (-4), 2) := by decide +kernel
theorem dX8_explains_27 : decode cX8_explains 27 = .ok (.iastore, 1) := by decide +kernel
theorem dX8_explains_28 : decode cX8_explains 28 = .ok (.aload_n 0, 1) := by decide +kernel
theorem dX8_explains_29 : decode cX8_explains 29 = .ok (.getfield 64, 3) := by decide +kernel
theorem dX8_explains_32 : decode cX8_explains 32 = .ok (.aload_n 0, 1) := by decide +kernel
theorem dX8_explains_33 : decode cX8_explains 33 = .ok (.getfield 43, 3) := by decide +kernel
theorem dX8_explains_36 : decode cX8_explains 36 = .ok (.invokevirtual 241, 3) := by decide +kernel
theorem dX8_explains_39 : decode cX8_explains 39 = .ok (.ireturn, 1) := by decide +kernel
end
section
theorem dX9_init_0 : decode cX9_init 0 = .ok (.aload_n 0, 1) := by decide +kernel
theorem dX9_init_1 : decode cX9_init 1 = .ok (.invokespecial 1, 3) := by decide +kernel
theorem dX9_init_4 : decode cX9_init 4 = .ok (.aload_n 0, 1) := by decide +kernel
theorem dX9_init_5 : decode cX9_init 5 = .ok (.sipush 200, 3) := by decide +kernel
theorem dX9_init_8 : decode cX9_init 8 = .ok (.newarray .byte, 2) := by decide +kernel
theorem dX9_init_10 : decode cX9_init 10 = .ok (.putfield 7, 3) := by decide +kernel
theorem dX9_init_13 : decode cX9_init 13 = .ok (.aload_n 0, 1) := by decide +kernel
theorem dX9_init_14 : decode cX9_init 14 = .ok (.iconst 2, 1) := by decide +kernel
theorem dX9_init_15 : decode cX9_init 15 = .ok (.newarray .int, 2) := by decide +kernel
theorem dX9_init_17 : decode cX9_init 17 = .ok (.putfield 13, 3) := by decide +kernel
theorem dX9_init_20 : decode cX9_init 20 = .ok (.aload_n 0, 1) := by decide +kernel
theorem dX9_init_21 : decode cX9_init 21 = .ok (.bipush 16, 2) := by decide +kernel
theorem dX9_init_23 : decode cX9_init 23 = .ok (.newarray .int, 2) := by decide +kernel
theorem dX9_init_25 : decode cX9_init 25 = .ok (.putfield 17, 3) := by decide +kernel
theorem dX9_init_28 : decode cX9_init 28 = .ok (.aload_n 0, 1) := by decide +kernel
theorem dX9_init_29 : decode cX9_init 29 = .ok (.bipush 16, 2) := by decide +kernel
theorem dX9_init_31 : decode cX9_init 31 = .ok (.newarray .int, 2) := by decide +kernel
theorem dX9_init_33 : decode cX9_init 33 = .ok (.putfield 20, 3) := by decide +kernel
theorem dX9_init_36 : decode cX9_init 36 = .ok (.aload_n 0, 1) := by decide +kernel
theorem dX9_init_37 : decode cX9_init 37 = .ok (.bipush 16, 2) := by decide +kernel
theorem dX9_init_39 : decode cX9_init 39 = .ok (.newarray .int, 2) := by decide +kernel
theorem dX9_init_41 : decode cX9_init 41 = .ok (.putfield 23, 3) := by decide +kernel
theorem dX9_init_44 : decode cX9_init 44 = .ok (.aload_n 0, 1) := by decide +kernel
theorem dX9_init_45 : decode cX9_init 45 = .ok (.bipush 16, 2) := by decide +kernel
theorem dX9_init_47 : decode cX9_init 47 = .ok (.newarray .int, 2) := by decide +kernel
theorem dX9_init_49 : decode cX9_init 49 = .ok (.putfield 26, 3) := by decide +kernel
theorem dX9_init_52 : decode cX9_init 52 = .ok (.aload_n 0, 1) := by decide +kernel
theorem dX9_init_53 : decode cX9_init 53 = .ok (.iconst 2, 1) := by decide +kernel
theorem dX9_init_54 : decode cX9_init 54 = .ok (.newarray .int, 2) := by decide +kernel
theorem dX9_init_56 : decode cX9_init 56 = .ok (.putfield 29, 3) := by decide +kernel
theorem dX9_init_59 : decode cX9_init 59 = .ok (.aload_n 0, 1) := by decide +kernel
theorem dX9_init_60 : decode cX9_init 60 = .ok (.iconst 2, 1) := by decide +kernel
theorem dX9_init_61 : decode cX9_init 61 = .ok (.newarray .int, 2) := by decide +kernel
theorem dX9_init_63 : decode cX9_init 63 = .ok (.putfield 32, 3) := by decide +kernel
theorem dX9_init_66 : decode cX9_init 66 = .ok (.aload_n 0, 1) := by decide +kernel
theorem dX9_init_67 : decode cX9_init 67 = .ok (.bipush 8, 2) := by decide +kernel
theorem dX9_init_69 : decode cX9_init 69 = .ok (.newarray .int, 2) := by decide +kernel
theorem dX9_init_71 : decode cX9_init 71 = .ok (.putfield 35, 3) := by decide +kernel
theorem dX9_init_74 : decode cX9_init 74 = .ok (.aload_n 0, 1) := by decide +kernel
theorem dX9_init_75 : decode cX9_init 75 = .ok (.bipush 8, 2) := by decide +kernel
theorem dX9_init_77 : decode cX9_init 77 = .ok (.newarray .int, 2) := by decide +kernel
theorem dX9_init_79 : decode cX9_init 79 = .ok (.putfield 38, 3) := by decide +kernel
theorem dX9_init_82 : decode cX9_init 82 = .ok (.aload_n 0, 1) := by decide +kernel
theorem dX9_init_83 : decode cX9_init 83 = .ok (.bipush 16, 2) := by decide +kernel
theorem dX9_init_85 : decode cX9_init 85 = .ok (.newarray .int, 2) := by decide +kernel
theorem dX9_init_87 : decode cX9_init 87 = .ok (.putfield 41, 3) := by decide +kernel
theorem dX9_init_90 : decode cX9_init 90 = .ok (.aload_n 0, 1) := by decide +kernel
theorem dX9_init_91 : decode cX9_init 91 = .ok (.iconst 2, 1) := by decide +kernel
theorem dX9_init_92 : decode cX9_init 92 = .ok (.newarray .int, 2) := by decide +kernel
theorem dX9_init_94 : decode cX9_init 94 = .ok (.putfield 44, 3) := by decide +kernel
theorem dX9_init_97 : decode cX9_init 97 = .ok (.aload_n 0, 1) := by decide +kernel
theorem dX9_init_98 : decode cX9_init 98 = .ok (.bipush 12, 2) := by decide +kernel
theorem dX9_init_100 : decode cX9_init 100 = .ok (.newarray .int, 2) := by decide +kernel
theorem dX9_init_102 : decode cX9_init 102 = .ok (.putfield 47, 3) := by decide +kernel
theorem dX9_init_105 : decode cX9_init 105 = .ok (.aload_n 0, 1) := by decide +kernel
theorem dX9_init_106 : decode cX9_init 106 = .ok (.bipush 16, 2) := by decide +kernel
theorem dX9_init_108 : decode cX9_init 108 = .ok (.newarray .int, 2) := by decide +kernel
theorem dX9_init_110 : decode cX9_init 110 = .ok (.putfield 50, 3) := by decide +kernel
theorem dX9_init_113 : decode cX9_init 113 = .ok (.aload_n 0, 1) := by decide +kernel
theorem dX9_init_114 : decode cX9_init 114 = .ok (.iconst 2, 1) := by decide +kernel
theorem dX9_init_115 : decode cX9_init 115 = .ok (.newarray .int, 2) := by decide +kernel
theorem dX9_init_117 : decode cX9_init 117 = .ok (.putfield 53, 3) := by decide +kernel
theorem dX9_init_120 : decode cX9_init 120 = .ok (.aload_n 0, 1) := by decide +kernel
theorem dX9_init_121 : decode cX9_init 121 = .ok (.bipush 16, 2) := by decide +kernel
theorem dX9_init_123 : decode cX9_init 123 = .ok (.newarray .int, 2) := by decide +kernel
theorem dX9_init_125 : decode cX9_init 125 = .ok (.putfield 56, 3) := by decide +kernel
theorem dX9_init_128 : decode cX9_init 128 = .ok (.aload_n 0, 1) := by decide +kernel
theorem dX9_init_129 : decode cX9_init 129 = .ok (.bipush 16, 2) := by decide +kernel
theorem dX9_init_131 : decode cX9_init 131 = .ok (.newarray .int, 2) := by decide +kernel
theorem dX9_init_133 : decode cX9_init 133 = .ok (.putfield 59, 3) := by decide +kernel
theorem dX9_init_136 : decode cX9_init 136 = .ok (.aload_n 0, 1) := by decide +kernel
theorem dX9_init_137 : decode cX9_init 137 = .ok (.sipush 192, 3) := by decide +kernel
theorem dX9_init_140 : decode cX9_init 140 = .ok (.newarray .int, 2) := by decide +kernel
theorem dX9_init_142 : decode cX9_init 142 = .ok (.putfield 62, 3) := by decide +kernel
theorem dX9_init_145 : decode cX9_init 145 = .ok (.aload_n 0, 1) := by decide +kernel
theorem dX9_init_146 : decode cX9_init 146 = .ok (.bipush 8, 2) := by decide +kernel
theorem dX9_init_148 : decode cX9_init 148 = .ok (.newarray .int, 2) := by decide +kernel
theorem dX9_init_150 : decode cX9_init 150 = .ok (.putfield 65, 3) := by decide +kernel
theorem dX9_init_153 : decode cX9_init 153 = .ok (.aload_n 0, 1) := by decide +kernel
theorem dX9_init_154 : decode cX9_init 154 = .ok (.bipush 8, 2) := by decide +kernel
theorem dX9_init_156 : decode cX9_init 156 = .ok (.newarray .int, 2) := by decide +kernel
theorem dX9_init_158 : decode cX9_init 158 = .ok (.putfield 68, 3) := by decide +kernel
theorem dX9_init_161 : decode cX9_init 161 = .ok (.aload_n 0, 1) := by decide +kernel
theorem dX9_init_162 : decode cX9_init 162 = .ok (.bipush 8, 2) := by decide +kernel
theorem dX9_init_164 : decode cX9_init 164 = .ok (.newarray .int, 2) := by decide +kernel
theorem dX9_init_166 : decode cX9_init 166 = .ok (.putfield 71, 3) := by decide +kernel
theorem dX9_init_169 : decode cX9_init 169 = .ok (.aload_n 0, 1) := by decide +kernel
theorem dX9_init_170 : decode cX9_init 170 = .ok (.sipush 256, 3) := by decide +kernel
theorem dX9_init_173 : decode cX9_init 173 = .ok (.newarray .int, 2) := by decide +kernel
theorem dX9_init_175 : decode cX9_init 175 = .ok (.putfield 74, 3) := by decide +kernel
theorem dX9_init_178 : decode cX9_init 178 = .ok (.aload_n 0, 1) := by decide +kernel
theorem dX9_init_179 : decode cX9_init 179 = .ok (.sipush 256, 3) := by decide +kernel
theorem dX9_init_182 : decode cX9_init 182 = .ok (.newarray .int, 2) := by decide +kernel
theorem dX9_init_184 : decode cX9_init 184 = .ok (.putfield 77, 3) := by decide +kernel
theorem dX9_init_187 : decode cX9_init 187 = .ok (.aload_n 0, 1) := by decide +kernel
theorem dX9_init_188 : decode cX9_init 188 = .ok (.bipush 6, 2) := by decide +kernel
theorem dX9_init_190 : decode cX9_init 190 = .ok (.newarray .int, 2) := by decide +kernel
theorem dX9_init_192 : decode cX9_init 192 = .ok (.putfield 80, 3) := by decide +kernel
theorem dX9_init_195 : decode cX9_init 195 = .ok (.aload_n 0, 1) := by decide +kernel
theorem dX9_init_196 : decode cX9_init 196 = .ok (.bipush 6, 2) := by decide +kernel
theorem dX9_init_198 : decode cX9_init 198 = .ok (.newarray .int, 2) := by decide +kernel
theorem dX9_init_200 : decode cX9_init 200 = .ok (.putfield 83, 3) := by decide +kernel
theorem dX9_init_203 : decode cX9_init 203 = .ok (.aload_n 0, 1) := by decide +kernel
theorem dX9_init_204 : decode cX9_init 204 = .ok (.getfield 13, 3) := by decide +kernel
theorem dX9_init_207 : decode cX9_init 207 = .ok (.iconst 0, 1) := by decide +kernel
theorem dX9_init_208 : decode cX9_init 208 = .ok (.bipush 6, 2) := by decide +kernel
theorem dX9_init_210 : decode cX9_init 210 = .ok (.iastore, 1) := by decide +kernel
theorem dX9_init_211 : decode cX9_init 211 = .ok (.aload_n 0, 1) := by decide +kernel
theorem dX9_init_212 : decode cX9_init 212 = .ok (.iconst 0, 1) := by decide +kernel
theorem dX9_init_213 : decode cX9_init 213 = .ok (.iconst 3, 1) := by decide +kernel
theorem dX9_init_214 : decode cX9_init 214 = .ok (.iconst 1, 1) := by decide +kernel
theorem dX9_init_215 : decode cX9_init 215 = .ok (.iconst 1, 1) := by decide +kernel
theorem dX9_init_216 : decode cX9_init 216 = .ok (.iconst 0, 1) := by decide +kernel
theorem dX9_init_217 : decode cX9_init 217 = .ok (.invokevirtual 86, 3) := by decide +kernel
theorem dX9_init_220 : decode cX9_init 220 = .ok (.aload_n 0, 1) := by decide +kernel
theorem dX9_init_221 : decode cX9_init 221 = .ok (.iconst 1, 1) := by decide +kernel
theorem dX9_init_222 : decode cX9_init 222 = .ok (.iconst 5, 1) := by decide +kernel
theorem dX9_init_223 : decode cX9_init 223 = .ok (.bipush 8, 2) := by decide +kernel
theorem dX9_init_225 : decode cX9_init 225 = .ok (.iconst 0, 1) := by decide +kernel
theorem dX9_init_226 : decode cX9_init 226 = .ok (.iconst 2, 1) := by decide +kernel
theorem dX9_init_227 : decode cX9_init 227 = .ok (.invokevirtual 86, 3) := by decide +kernel
theorem dX9_init_230 : decode cX9_init 230 = .ok (.aload_n 0, 1) := by decide +kernel
theorem dX9_init_231 : decode cX9_init 231 = .ok (.iconst 2, 1) := by decide +kernel
theorem dX9_init_232 : decode cX9_init 232 = .ok (.bipush 7, 2) := by decide +kernel
theorem dX9_init_234 : decode cX9_init 234 = .ok (.bipush 6, 2) := by decide +kernel
theorem dX9_init_236 : decode cX9_init 236 = .ok (.iconst 2, 1) := by decide +kernel
theorem dX9_init_237 : decode cX9_init 237 = .ok (.iconst 0, 1) := by decide +kernel
theorem dX9_init_238 : decode cX9_init 238 = .ok (.invokevirtual 86, 3) := by decide +kernel
theorem dX9_init_241 : decode cX9_init 241 = .ok (.aload_n 0, 1) := by decide +kernel
theorem dX9_init_242 : decode cX9_init 242 = .ok (.iconst 3, 1) := by decide +kernel
theorem dX9_init_243 : decode cX9_init 243 = .ok (.iconst 4, 1) := by decide +kernel
theorem dX9_init_244 : decode cX9_init 244 = .ok (.iconst 3, 1) := by decide +kernel
theorem dX9_init_245 : decode cX9_init 245 = .ok (.iconst 3, 1) := by decide +kernel
theorem dX9_init_246 : decode cX9_init 246 = .ok (.iconst 0, 1) := by decide +kernel
theorem dX9_init_247 : decode cX9_init 247 = .ok (.invokevirtual 86, 3) := by decide +kernel
theorem dX9_init_250 : decode cX9_init 250 = .ok (.aload_n 0, 1) := by decide +kernel
theorem dX9_init_251 : decode cX9_init 251 = .ok (.iconst 4, 1) := by decide +kernel
theorem dX9_init_252 : decode cX9_init 252 = .ok (.bipush 6, 2) := by decide +kernel
theorem dX9_init_254 : decode cX9_init 254 = .ok (.iconst 4, 1) := by decide +kernel
theorem dX9_init_255 : decode cX9_init 255 = .ok (.iconst 0, 1) := by decide +kernel
theorem dX9_init_256 : decode cX9_init 256 = .ok (.iconst 1, 1) := by decide +kernel
theorem dX9_init_257 : decode cX9_init 257 = .ok (.invokevirtual 86, 3) := by decide +kernel
theorem dX9_init_260 : decode cX9_init 260 = .ok (.aload_n 0, 1) := by decide +kernel
theorem dX9_init_261 : decode cX9_init 261 = .ok (.iconst 5, 1) := by decide +kernel
theorem dX9_init_262 : decode cX9_init 262 = .ok (.iconst 2, 1) := by decide +kernel
theorem dX9_init_263 : decode cX9_init 263 = .ok (.iconst 2, 1) := by decide +kernel
theorem dX9_init_264 : decode cX9_init 264 = .ok (.iconst 0, 1) := by decide +kernel
theorem dX9_init_265 : decode cX9_init 265 = .ok (.iconst 0, 1) := by decide +kernel
theorem dX9_init_266 : decode cX9_init 266 = .ok (.invokevirtual 86, 3) := by decide +kernel
theorem dX9_init_269 : decode cX9_init 269 = .ok (.aload_n 0, 1) := by decide +kernel
theorem dX9_init_270 : decode cX9_init 270 = .ok (.getfield 29, 3) := by decide +kernel
theorem dX9_init_273 : decode cX9_init 273 = .ok (.iconst 0, 1) := by decide +kernel
theorem dX9_init_274 : decode cX9_init 274 = .ok (.bipush 40, 2) := by decide +kernel
theorem dX9_init_276 : decode cX9_init 276 = .ok (.iastore, 1) := by decide +kernel
theorem dX9_init_277 : decode cX9_init 277 = .ok (.aload_n 0, 1) := by decide +kernel
theorem dX9_init_278 : decode cX9_init 278 = .ok (.getfield 32, 3) := by decide +kernel
theorem dX9_init_281 : decode cX9_init 281 = .ok (.iconst 0, 1) := by decide +kernel
theorem dX9_init_282 : decode cX9_init 282 = .ok (.iconst 2, 1) := by decide +kernel
theorem dX9_init_283 : decode cX9_init 283 = .ok (.iastore, 1) := by decide +kernel
theorem dX9_init_284 : decode cX9_init 284 = .ok (.aload_n 0, 1) := by decide +kernel
theorem dX9_init_285 : decode cX9_init 285 = .ok (.getfield 35, 3) := by decide +kernel
theorem dX9_init_288 : decode cX9_init 288 = .ok (.iconst 0, 1) := by decide +kernel
theorem dX9_init_289 : decode cX9_init 289 = .ok (.iconst 0, 1) := by decide +kernel
theorem dX9_init_290 : decode cX9_init 290 = .ok (.iastore, 1) := by decide +kernel
theorem dX9_init_291 : decode cX9_init 291 = .ok (.aload_n 0, 1) := by decide +kernel
theorem dX9_init_292 : decode cX9_init 292 = .ok (.getfield 38, 3) := by decide +kernel
theorem dX9_init_295 : decode cX9_init 295 = .ok (.iconst 0, 1) := by decide +kernel
theorem dX9_init_296 : decode cX9_init 296 = .ok (.iconst 1, 1) := by decide +kernel
theorem dX9_init_297 : decode cX9_init 297 = .ok (.iastore, 1) := by decide +kernel
theorem dX9_init_298 : decode cX9_init 298 = .ok (.aload_n 0, 1) := by decide +kernel
theorem dX9_init_299 : decode cX9_init 299 = .ok (.getfield 35, 3) := by decide +kernel
theorem dX9_init_302 : decode cX9_init 302 = .ok (.iconst 1, 1) := by decide +kernel
theorem dX9_init_303 : decode cX9_init 303 = .ok (.bipush 8, 2) := by decide +kernel
theorem dX9_init_305 : decode cX9_init 305 = .ok (.iastore, 1) := by decide +kernel
theorem dX9_init_306 : decode cX9_init 306 = .ok (.aload_n 0, 1) := by decide +kernel
theorem dX9_init_307 : decode cX9_init 307 = .ok (.getfield 38, 3) := by decide +kernel
theorem dX9_init_310 : decode cX9_init 310 = .ok (.iconst 1, 1) := by decide +kernel
theorem dX9_init_311 : decode cX9_init 311 = .ok (.iconst 2, 1) := by decide +kernel
theorem dX9_init_312 : decode cX9_init 312 = .ok (.iastore, 1) := by decide +kernel
theorem dX9_init_313 : decode cX9_init 313 = .ok (.aload_n 0, 1) := by decide +kernel
theorem dX9_init_314 : decode cX9_init 314 = .ok (.getfield 44, 3) := by decide +kernel
theorem dX9_init_317 : decode cX9_init 317 = .ok (.iconst 0, 1) := by decide +kernel
theorem dX9_init_318 : decode cX9_init 318 = .ok (.iconst 1, 1) := by decide +kernel
theorem dX9_init_319 : decode cX9_init 319 = .ok (.iastore, 1) := by decide +kernel
theorem dX9_init_320 : decode cX9_init 320 = .ok (.aload_n 0, 1) := by decide +kernel
theorem dX9_init_321 : decode cX9_init 321 = .ok (.getfield 47, 3) := by decide +kernel
theorem dX9_init_324 : decode cX9_init 324 = .ok (.iconst 0, 1) := by decide +kernel
theorem dX9_init_325 : decode cX9_init 325 = .ok (.iconst 3, 1) := by decide +kernel
theorem dX9_init_326 : decode cX9_init 326 = .ok (.iastore, 1) := by decide +kernel
theorem dX9_init_327 : decode cX9_init 327 = .ok (.aload_n 0, 1) := by decide +kernel
theorem dX9_init_328 : decode cX9_init 328 = .ok (.getfield 47, 3) := by decide +kernel
theorem dX9_init_331 : decode cX9_init 331 = .ok (.iconst 1, 1) := by decide +kernel
theorem dX9_init_332 : decode cX9_init 332 = .ok (.iconst 4, 1) := by decide +kernel
theorem dX9_init_333 : decode cX9_init 333 = .ok (.iastore, 1) := by decide +kernel
theorem dX9_init_334 : decode cX9_init 334 = .ok (.aload_n 0, 1) := by decide +kernel
theorem dX9_init_335 : decode cX9_init 335 = .ok (.getfield 47, 3) := by decide +kernel
theorem dX9_init_338 : decode cX9_init 338 = .ok (.iconst 2, 1) := by decide +kernel
theorem dX9_init_339 : decode cX9_init 339 = .ok (.iconst 5, 1) := by decide +kernel
theorem dX9_init_340 : decode cX9_init 340 = .ok (.iastore, 1) := by decide +kernel
theorem dX9_init_341 : decode cX9_init 341 = .ok (.iconst 0, 1) := by decide +kernel
theorem dX9_init_342 : decode cX9_init 342 = .ok (.istore_n 1, 1) := by decide +kernel
theorem dX9_init_343 : decode cX9_init 343 = .ok (.iload_n 1, 1) := by decide +kernel
theorem dX9_init_344 : decode cX9_init 344 = .ok (.bipush 8, 2) := by decide +kernel
theorem dX9_init_346 : decode cX9_init 346 = .ok (.if_icmp .ge 31, 3) := by decide +kernel
theorem dX9_init_349 : decode cX9_init 349 = .ok (.aload_n 0, 1) := by decide +kernel
theorem dX9_init_350 : decode cX9_init 350 = .ok (.getfield 41, 3) := by decide +kernel
theorem dX9_init_353 : decode cX9_init 353 = .ok (.iload_n 1, 1) := by decide +kernel
theorem dX9_init_354 : decode cX9_init 354 = .ok (.bipush (-4), 2) := by decide +kernel
theorem dX9_init_356 : decode cX9_init 356 = .ok (.iastore, 1) := by decide +kernel
theorem dX9_init_357 : decode cX9_init 357 = .ok (.aload_n 0, 1) := by decide +kernel
theorem dX9_init_358 : decode cX9_init 358 = .ok (.getfield 56, 3) := by decide +kernel
theorem dX9_init_361 : decode cX9_init 361 = .ok (.iload_n 1, 1) := by decide +kernel
theorem dX9_init_362 : decode cX9_init 362 = .ok (.iconst 0, 1) := by decide +kernel
theorem dX9_init_363 : decode cX9_init 363 = .ok (.iastore, 1) := by decide +kernel
theorem dX9_init_364 : decode cX9_init 364 = .ok (.aload_n 0, 1) := by decide +kernel
theorem dX9_init_365 : decode cX9_init 365 = .ok (.getfield 50, 3) := by decide +kernel
theorem dX9_init_368 : decode cX9_init 368 = .ok (.iload_n 1, 1) := by decide +kernel
theorem dX9_init_369 : decode cX9_init 369 = .ok (.iconst 0, 1) := by decide +kernel
theorem dX9_init_370 : decode cX9_init 370 = .ok (.iastore, 1) := by decide +kernel
theorem dX9_init_371 : decode cX9_init 371 = .ok (.iinc 1 1, 3) := by decide +kernel
theorem dX9_init_374 : decode cX9_init 374 = .ok (.goto (-31), 3) := by decide +kernel
theorem dX9_init_377 : decode cX9_init 377 = .ok (.aload_n 0, 1) := by decide +kernel
theorem dX9_init_378 : decode cX9_init 378 = .ok (.getfield 41, 3) := by decide +kernel
theorem dX9_init_381 : decode cX9_init 381 = .ok (.iconst 0, 1) := by decide +kernel
theorem dX9_init_382 : decode cX9_init 382 = .ok (.iconst 1, 1) := by decide +kernel
theorem dX9_init_383 : decode cX9_init 383 = .ok (.iastore, 1) := by decide +kernel
theorem dX9_init_384 : decode cX9_init 384 = .ok (.aload_n 0, 1) := by decide +kernel
theorem dX9_init_385 : decode cX9_init 385 = .ok (.getfield 50, 3) := by decide +kernel
theorem dX9_init_388 : decode cX9_init 388 = .ok (.iconst 5, 1) := by decide +kernel
theorem dX9_init_389 : decode cX9_init 389 = .ok (.iconst 1, 1) := by decide +kernel
theorem dX9_init_390 : decode cX9_init 390 = .ok (.iastore, 1) := by decide +kernel
theorem dX9_init_391 : decode cX9_init 391 = .ok (.aload_n 0, 1) := by decide +kernel
theorem dX9_init_392 : decode cX9_init 392 = .ok (.getfield 50, 3) := by decide +kernel
theorem dX9_init_395 : decode cX9_init 395 = .ok (.iconst 0, 1) := by decide +kernel
theorem dX9_init_396 : decode cX9_init 396 = .ok (.iconst 2, 1) := by decide +kernel
theorem dX9_init_397 : decode cX9_init 397 = .ok (.iastore, 1) := by decide +kernel
theorem dX9_init_398 : decode cX9_init 398 = .ok (.aload_n 0, 1) := by decide +kernel
theorem dX9_init_399 : decode cX9_init 399 = .ok (.getfield 53, 3) := by decide +kernel
theorem dX9_init_402 : decode cX9_init 402 = .ok (.iconst 0, 1) := by decide +kernel
theorem dX9_init_403 : decode cX9_init 403 = .ok (.iconst 2, 1) := by decide +kernel
theorem dX9_init_404 : decode cX9_init 404 = .ok (.iastore, 1) := by decide +kernel
theorem dX9_init_405 : decode cX9_init 405 = .ok (.aload_n 0, 1) := by decide +kernel
theorem dX9_init_406 : decode cX9_init 406 = .ok (.getfield 56, 3) := by decide +kernel
theorem dX9_init_409 : decode cX9_init 409 = .ok (.iconst 0, 1) := by decide +kernel
theorem dX9_init_410 : decode cX9_init 410 = .ok (.iconst 1, 1) := by decide +kernel
theorem dX9_init_411 : decode cX9_init 411 = .ok (.iastore, 1) := by decide +kernel
theorem dX9_init_412 : decode cX9_init 412 = .ok (.aload_n 0, 1) := by decide +kernel
theorem dX9_init_413 : decode cX9_init 413 = .ok (.getfield 56, 3) := by decide +kernel
theorem dX9_init_416 : decode cX9_init 416 = .ok (.iconst 2, 1) := by decide +kernel
theorem dX9_init_417 : decode cX9_init 417 = .ok (.iconst 1, 1) := by decide +kernel
theorem dX9_init_418 : decode cX9_init 418 = .ok (.iastore, 1) := by decide +kernel
theorem dX9_init_419 : decode cX9_init 419 = .ok (.aload_n 0, 1) := by decide +kernel
theorem dX9_init_420 : decode cX9_init 420 = .ok (.getfield 56, 3) := by decide +kernel
theorem dX9_init_423 : decode cX9_init 423 = .ok (.iconst 1, 1) := by decide +kernel
theorem dX9_init_424 : decode cX9_init 424 = .ok (.iconst 3, 1) := by decide +kernel
theorem dX9_init_425 : decode cX9_init 425 = .ok (.iastore, 1) := by decide +kernel
theorem dX9_init_426 : decode cX9_init 426 = .ok (.aload_n 0, 1) := by decide +kernel
theorem dX9_init_427 : decode cX9_init 427 = .ok (.getfield 59, 3) := by decide +kernel
theorem dX9_init_430 : decode cX9_init 430 = .ok (.iconst 0, 1) := by decide +kernel
theorem dX9_init_431 : decode cX9_init 431 = .ok (.bipush 12, 2) := by decide +kernel
theorem dX9_init_433 : decode cX9_init 433 = .ok (.iastore, 1) := by decide +kernel
theorem dX9_init_434 : decode cX9_init 434 = .ok (.aload_n 0, 1) := by decide +kernel
theorem dX9_init_435 : decode cX9_init 435 = .ok (.getfield 59, 3) := by decide +kernel
theorem dX9_init_438 : decode cX9_init 438 = .ok (.iconst 1, 1) := by decide +kernel
theorem dX9_init_439 : decode cX9_init 439 = .ok (.bipush 30, 2) := by decide +kernel
theorem dX9_init_441 : decode cX9_init 441 = .ok (.iastore, 1) := by decide +kernel
theorem dX9_init_442 : decode cX9_init 442 = .ok (.aload_n 0, 1) := by decide +kernel
theorem dX9_init_443 : decode cX9_init 443 = .ok (.getfield 59, 3) := by decide +kernel
theorem dX9_init_446 : decode cX9_init 446 = .ok (.iconst 2, 1) := by decide +kernel
theorem dX9_init_447 : decode cX9_init 447 = .ok (.bipush 7, 2) := by decide +kernel
theorem dX9_init_449 : decode cX9_init 449 = .ok (.iastore, 1) := by decide +kernel
theorem dX9_init_450 : decode cX9_init 450 = .ok (.aload_n 0, 1) := by decide +kernel
theorem dX9_init_451 : decode cX9_init 451 = .ok (.invokevirtual 90, 3) := by decide +kernel
theorem dX9_init_454 : decode cX9_init 454 = .ok (.return_, 1) := by decide +kernel
theorem dX9_firstBeast_0 : decode cX9_firstBeast 0 = .ok (.aload_n 0, 1) := by decide +kernel
theorem dX9_firstBeast_1 : decode cX9_firstBeast 1 = .ok (.getfield 17, 3) := by decide +kernel
theorem dX9_firstBeast_4 : decode cX9_firstBeast 4 = .ok (.iload_n 1, 1) := by decide +kernel
theorem dX9_firstBeast_5 : decode cX9_firstBeast 5 = .ok (.iload_n 2, 1) := by decide +kernel
theorem dX9_firstBeast_6 : decode cX9_firstBeast 6 = .ok (.iastore, 1) := by decide +kernel
theorem dX9_firstBeast_7 : decode cX9_firstBeast 7 = .ok (.aload_n 0, 1) := by decide +kernel
theorem dX9_firstBeast_8 : decode cX9_firstBeast 8 = .ok (.getfield 20, 3) := by decide +kernel
theorem dX9_firstBeast_11 : decode cX9_firstBeast 11 = .ok (.iload_n 1, 1) := by decide +kernel
theorem dX9_firstBeast_12 : decode cX9_firstBeast 12 = .ok (.iload_n 3, 1) := by decide +kernel
theorem dX9_firstBeast_13 : decode cX9_firstBeast 13 = .ok (.iastore, 1) := by decide +kernel
theorem dX9_firstBeast_14 : decode cX9_firstBeast 14 = .ok (.aload_n 0, 1) := by decide +kernel
theorem dX9_firstBeast_15 : decode cX9_firstBeast 15 = .ok (.getfield 23, 3) := by decide +kernel
theorem dX9_firstBeast_18 : decode cX9_firstBeast 18 = .ok (.iload_n 1, 1) := by decide +kernel
theorem dX9_firstBeast_19 : decode cX9_firstBeast 19 = .ok (.iload 4, 2) := by decide +kernel
theorem dX9_firstBeast_21 : decode cX9_firstBeast 21 = .ok (.iastore, 1) := by decide +kernel
theorem dX9_firstBeast_22 : decode cX9_firstBeast 22 = .ok (.aload_n 0, 1) := by decide +kernel
theorem dX9_firstBeast_23 : decode cX9_firstBeast 23 = .ok (.getfield 26, 3) := by decide +kernel
theorem dX9_firstBeast_26 : decode cX9_firstBeast 26 = .ok (.iload_n 1, 1) := by decide +kernel
theorem dX9_firstBeast_27 : decode cX9_firstBeast 27 = .ok (.iload 5, 2) := by decide +kernel
theorem dX9_firstBeast_29 : decode cX9_firstBeast 29 = .ok (.iastore, 1) := by decide +kernel
theorem dX9_firstBeast_30 : decode cX9_firstBeast 30 = .ok (.return_, 1) := by decide +kernel
theorem dX9_in_0 : decode cX9_in 0 = .ok (.iload_n 0, 1) := by decide +kernel
theorem dX9_in_1 : decode cX9_in 1 = .ok (.iload_n 1, 1) := by decide +kernel
theorem dX9_in_2 : decode cX9_in 2 = .ok (.if_icmp .lt 12, 3) := by decide +kernel
theorem dX9_in_5 : decode cX9_in 5 = .ok (.iload_n 0, 1) := by decide +kernel
theorem dX9_in_6 : decode cX9_in 6 = .ok (.iload_n 2, 1) := by decide +kernel
theorem dX9_in_7 : decode cX9_in 7 = .ok (.if_icmp .gt 7, 3) := by decide +kernel
theorem dX9_in_10 : decode cX9_in 10 = .ok (.iconst 1, 1) := by decide +kernel
theorem dX9_in_11 : decode cX9_in 11 = .ok (.goto 4, 3) := by decide +kernel
theorem dX9_in_14 : decode cX9_in 14 = .ok (.iconst 0, 1) := by decide +kernel
theorem dX9_in_15 : decode cX9_in 15 = .ok (.ireturn, 1) := by decide +kernel
theorem dX9_write_0 : decode cX9_write 0 = .ok (.iload_n 1, 1) := by decide +kernel
theorem dX9_write_1 : decode cX9_write 1 = .ok (.bipush 32, 2) := by decide +kernel
theorem dX9_write_3 : decode cX9_write 3 = .ok (.bipush 126, 2) := by decide +kernel
theorem dX9_write_5 : decode cX9_write 5 = .ok (.invokestatic 93, 3) := by decide +kernel
theorem dX9_write_8 : decode cX9_write 8 = .ok (.ifCond .ne 5, 3) := by decide +kernel
theorem dX9_write_11 : decode cX9_write 11 = .ok (.iconst (-1), 1) := by decide +kernel
theorem dX9_write_12 : decode cX9_write 12 = .ok (.ireturn, 1) := by decide +kernel
theorem dX9_write_13 : decode cX9_write 13 = .ok (.aload_n 0, 1) := by decide +kernel
theorem dX9_write_14 : decode cX9_write 14 = .ok (.getfield 97, 3) := by decide +kernel
theorem dX9_write_17 : decode cX9_write 17 = .ok (.sipush 200, 3) := by decide +kernel
theorem dX9_write_20 : decode cX9_write 20 = .ok (.if_icmp .ne 6, 3) := by decide +kernel
theorem dX9_write_23 : decode cX9_write 23 = .ok (.bipush (-3), 2) := by decide +kernel
theorem dX9_write_25 : decode cX9_write 25 = .ok (.ireturn, 1) := by decide +kernel
theorem dX9_write_26 : decode cX9_write 26 = .ok (.aload_n 0, 1) := by decide +kernel
theorem dX9_write_27 : decode cX9_write 27 = .ok (.getfield 7, 3) := by decide +kernel
theorem dX9_write_30 : decode cX9_write 30 = .ok (.aload_n 0, 1) := by decide +kernel
theorem dX9_write_31 : decode cX9_write 31 = .ok (.getfield 97, 3) := by decide +kernel
theorem dX9_write_34 : decode cX9_write 34 = .ok (.iload_n 1, 1) := by decide +kernel
theorem dX9_write_35 : decode cX9_write 35 = .ok (.i2b, 1) := by decide +kernel
theorem dX9_write_36 : decode cX9_write 36 = .ok (.bastore, 1) := by decide +kernel
theorem dX9_write_37 : decode cX9_write 37 = .ok (.aload_n 0, 1) := by decide +kernel
theorem dX9_write_38 : decode cX9_write 38 = .ok (.dup, 1) := by decide +kernel
theorem dX9_write_39 : decode cX9_write 39 = .ok (.getfield 97, 3) := by decide +kernel
theorem dX9_write_42 : decode cX9_write 42 = .ok (.iconst 1, 1) := by decide +kernel
theorem dX9_write_43 : decode cX9_write 43 = .ok (.iadd, 1) := by decide +kernel
theorem dX9_write_44 : decode cX9_write 44 = .ok (.putfield 97, 3) := by decide +kernel
theorem dX9_write_47 : decode cX9_write 47 = .ok (.aload_n 0, 1) := by decide +kernel
theorem dX9_write_48 : decode cX9_write 48 = .ok (.getfield 97, 3) := by decide +kernel
theorem dX9_write_51 : decode cX9_write 51 = .ok (.ireturn, 1) := by decide +kernel
theorem dX9_wipe_0 : decode cX9_wipe 0 = .ok (.aload_n 0, 1) := by decide +kernel
theorem dX9_wipe_1 : decode cX9_wipe 1 = .ok (.getfield 97, 3) := by decide +kernel
theorem dX9_wipe_4 : decode cX9_wipe 4 = .ok (.istore_n 1, 1) := by decide +kernel
theorem dX9_wipe_5 : decode cX9_wipe 5 = .ok (.aload_n 0, 1) := by decide +kernel
theorem dX9_wipe_6 : decode cX9_wipe 6 = .ok (.iconst 0, 1) := by decide +kernel
theorem dX9_wipe_7 : decode cX9_wipe 7 = .ok (.putfield 97, 3) := by decide +kernel
theorem dX9_wipe_10 : decode cX9_wipe 10 = .ok (.iload_n 1, 1) := by decide +kernel
theorem dX9_wipe_11 : decode cX9_wipe 11 = .ok (.ireturn, 1) := by decide +kernel
theorem dX9_here_0 : decode cX9_here 0 = .ok (.aload_n 0, 1) := by decide +kernel
theorem dX9_here_1 : decode cX9_here 1 = .ok (.getfield 101, 3) := by decide +kernel
theorem dX9_here_4 : decode cX9_here 4 = .ok (.aload_n 0, 1) := by decide +kernel
theorem dX9_here_5 : decode cX9_here 5 = .ok (.getfield 97, 3) := by decide +kernel
theorem dX9_here_8 : decode cX9_here 8 = .ok (.if_icmp .ge 15, 3) := by decide +kernel
theorem dX9_here_11 : decode cX9_here 11 = .ok (.aload_n 0, 1) := by decide +kernel
theorem dX9_here_12 : decode cX9_here 12 = .ok (.getfield 7, 3) := by decide +kernel
theorem dX9_here_15 : decode cX9_here 15 = .ok (.aload_n 0, 1) := by decide +kernel
theorem dX9_here_16 : decode cX9_here 16 = .ok (.getfield 101, 3) := by decide +kernel
theorem dX9_here_19 : decode cX9_here 19 = .ok (.baload, 1) := by decide +kernel
theorem dX9_here_20 : decode cX9_here 20 = .ok (.goto 4, 3) := by decide +kernel
theorem dX9_here_23 : decode cX9_here 23 = .ok (.iconst (-1), 1) := by decide +kernel
theorem dX9_here_24 : decode cX9_here 24 = .ok (.ireturn, 1) := by decide +kernel
theorem dX9_number_0 : decode cX9_number 0 = .ok (.iconst 0, 1) := by decide +kernel
theorem dX9_number_1 : decode cX9_number 1 = .ok (.istore 4, 2) := by decide +kernel
theorem dX9_number_3 : decode cX9_number 3 = .ok (.iconst 0, 1) := by decide +kernel
theorem dX9_number_4 : decode cX9_number 4 = .ok (.istore 5, 2) := by decide +kernel
theorem dX9_number_6 : decode cX9_number 6 = .ok (.iload 5, 2) := by decide +kernel
theorem dX9_number_8 : decode cX9_number 8 = .ok (.iconst 2, 1) := by decide +kernel
theorem dX9_number_9 : decode cX9_number 9 = .ok (.if_icmp .ge 48, 3) := by decide +kernel
theorem dX9_number_12 : decode cX9_number 12 = .ok (.aload_n 0, 1) := by decide +kernel
theorem dX9_number_13 : decode cX9_number 13 = .ok (.invokevirtual 104, 3) := by decide +kernel
theorem dX9_number_16 : decode cX9_number 16 = .ok (.bipush 48, 2) := by decide +kernel
theorem dX9_number_18 : decode cX9_number 18 = .ok (.bipush 57, 2) := by decide +kernel
theorem dX9_number_20 : decode cX9_number 20 = .ok (.invokestatic 93, 3) := by decide +kernel
theorem dX9_number_23 : decode cX9_number 23 = .ok (.ifCond .eq 34, 3) := by decide +kernel
theorem dX9_number_26 : decode cX9_number 26 = .ok (.bipush 10, 2) := by decide +kernel
theorem dX9_number_28 : decode cX9_number 28 = .ok (.iload 4, 2) := by decide +kernel
theorem dX9_number_30 : decode cX9_number 30 = .ok (.imul, 1) := by decide +kernel
theorem dX9_number_31 : decode cX9_number 31 = .ok (.aload_n 0, 1) := by decide +kernel
theorem dX9_number_32 : decode cX9_number 32 = .ok (.invokevirtual 104, 3) := by decide +kernel
theorem dX9_number_35 : decode cX9_number 35 = .ok (.iadd, 1) := by decide +kernel
theorem dX9_number_36 : decode cX9_number 36 = .ok (.bipush 48, 2) := by decide +kernel
theorem dX9_number_38 : decode cX9_number 38 = .ok (.isub, 1) := by decide +kernel
theorem dX9_number_39 : decode cX9_number 39 = .ok (.istore 4, 2) := by decide +kernel
theorem dX9_number_41 : decode cX9_number 41 = .ok (.aload_n 0, 1) := by decide +kernel
theorem dX9_number_42 : decode cX9_number 42 = .ok (.dup, 1) := by decide +kernel
theorem dX9_number_43 : decode cX9_number 43 = .ok (.getfield 101, 3) := by decide +kernel
theorem dX9_number_46 : decode cX9_number 46 = .ok (.iconst 1, 1) := by decide +kernel
theorem dX9_number_47 : decode cX9_number 47 = .ok (.iadd, 1) := by decide +kernel
theorem dX9_number_48 : decode cX9_number 48 = .ok (.putfield 101, 3) := by decide +kernel
theorem dX9_number_51 : decode cX9_number 51 = .ok (.iinc 5 1, 3) := by decide +kernel
theorem dX9_number_54 : decode cX9_number 54 = .ok (.goto (-48), 3) := by decide +kernel
theorem dX9_number_57 : decode cX9_number 57 = .ok (.aload_n 0, 1) := by decide +kernel
theorem dX9_number_58 : decode cX9_number 58 = .ok (.aload_n 0, 1) := by decide +kernel
theorem dX9_number_59 : decode cX9_number 59 = .ok (.getfield 108, 3) := by decide +kernel
theorem dX9_number_62 : decode cX9_number 62 = .ok (.ifCond .eq 30, 3) := by decide +kernel
theorem dX9_number_65 : decode cX9_number 65 = .ok (.iload 5, 2) := by decide +kernel
theorem dX9_number_67 : decode cX9_number 67 = .ok (.ifCond .le 25, 3) := by decide +kernel
theorem dX9_number_70 : decode cX9_number 70 = .ok (.iload 4, 2) := by decide +kernel
theorem dX9_number_72 : decode cX9_number 72 = .ok (.iload_n 1, 1) := by decide +kernel
theorem dX9_number_73 : decode cX9_number 73 = .ok (.iload_n 2, 1) := by decide +kernel
theorem dX9_number_74 : decode cX9_number 74 = .ok (.invokestatic 93, 3) := by decide +kernel
theorem dX9_number_77 : decode cX9_number 77 = .ok (.ifCond .eq 15, 3) := by decide +kernel
theorem dX9_number_80 : decode cX9_number 80 = .ok (.aload_n 0, 1) := by decide +kernel
theorem dX9_number_81 : decode cX9_number 81 = .ok (.invokevirtual 104, 3) := by decide +kernel
theorem dX9_number_84 : decode cX9_number 84 = .ok (.iload_n 3, 1) := by decide +kernel
theorem dX9_number_85 : decode cX9_number 85 = .ok (.if_icmp .ne 7, 3) := by decide +kernel
theorem dX9_number_88 : decode cX9_number 88 = .ok (.iconst 1, 1) := by decide +kernel
theorem dX9_number_89 : decode cX9_number 89 = .ok (.goto 4, 3) := by decide +kernel
theorem dX9_number_92 : decode cX9_number 92 = .ok (.iconst 0, 1) := by decide +kernel
theorem dX9_number_93 : decode cX9_number 93 = .ok (.putfield 108, 3) := by decide +kernel
theorem dX9_number_96 : decode cX9_number 96 = .ok (.aload_n 0, 1) := by decide +kernel
theorem dX9_number_97 : decode cX9_number 97 = .ok (.dup, 1) := by decide +kernel
theorem dX9_number_98 : decode cX9_number 98 = .ok (.getfield 101, 3) := by decide +kernel
theorem dX9_number_101 : decode cX9_number 101 = .ok (.iconst 1, 1) := by decide +kernel
theorem dX9_number_102 : decode cX9_number 102 = .ok (.iadd, 1) := by decide +kernel
theorem dX9_number_103 : decode cX9_number 103 = .ok (.putfield 101, 3) := by decide +kernel
theorem dX9_number_106 : decode cX9_number 106 = .ok (.iload 4, 2) := by decide +kernel
theorem dX9_number_108 : decode cX9_number 108 = .ok (.ireturn, 1) := by decide +kernel
theorem dX9_told_0 : decode cX9_told 0 = .ok (.aload_n 0, 1) := by decide +kernel
theorem dX9_told_1 : decode cX9_told 1 = .ok (.iconst 0, 1) := by decide +kernel
theorem dX9_told_2 : decode cX9_told 2 = .ok (.aload_n 0, 1) := by decide +kernel
theorem dX9_told_3 : decode cX9_told 3 = .ok (.getfield 13, 3) := by decide +kernel
theorem dX9_told_6 : decode cX9_told 6 = .ok (.iconst 1, 1) := by decide +kernel
theorem dX9_told_7 : decode cX9_told 7 = .ok (.iaload, 1) := by decide +kernel
theorem dX9_told_8 : decode cX9_told 8 = .ok (.iconst 1, 1) := by decide +kernel
theorem dX9_told_9 : decode cX9_told 9 = .ok (.isub, 1) := by decide +kernel
theorem dX9_told_10 : decode cX9_told 10 = .ok (.iload_n 1, 1) := by decide +kernel
theorem dX9_told_11 : decode cX9_told 11 = .ok (.invokevirtual 112, 3) := by decide +kernel
theorem dX9_told_14 : decode cX9_told 14 = .ok (.ireturn, 1) := by decide +kernel
theorem dX9_readBeast_0 : decode cX9_readBeast 0 = .ok (.aload_n 0, 1) := by decide +kernel
theorem dX9_readBeast_1 : decode cX9_readBeast 1 = .ok (.aload_n 0, 1) := by decide +kernel
theorem dX9_readBeast_2 : decode cX9_readBeast 2 = .ok (.getfield 13, 3) := by decide +kernel
theorem dX9_readBeast_5 : decode cX9_readBeast 5 = .ok (.iconst 1, 1) := by decide +kernel
theorem dX9_readBeast_6 : decode cX9_readBeast 6 = .ok (.iaload, 1) := by decide +kernel
theorem dX9_readBeast_7 : decode cX9_readBeast 7 = .ok (.bipush 8, 2) := by decide +kernel
theorem dX9_readBeast_9 : decode cX9_readBeast 9 = .ok (.if_icmp .ge 7, 3) := by decide +kernel
theorem dX9_readBeast_12 : decode cX9_readBeast 12 = .ok (.iconst 1, 1) := by decide +kernel
theorem dX9_readBeast_13 : decode cX9_readBeast 13 = .ok (.goto 4, 3) := by decide +kernel
theorem dX9_readBeast_16 : decode cX9_readBeast 16 = .ok (.iconst 0, 1) := by decide +kernel
theorem dX9_readBeast_17 : decode cX9_readBeast 17 = .ok (.putfield 108, 3) := by decide +kernel
theorem dX9_readBeast_20 : decode cX9_readBeast 20 = .ok (.aload_n 0, 1) := by decide +kernel
theorem dX9_readBeast_21 : decode cX9_readBeast 21 = .ok (.iconst 1, 1) := by decide +kernel
theorem dX9_readBeast_22 : decode cX9_readBeast 22 = .ok (.bipush 9, 2) := by decide +kernel
theorem dX9_readBeast_24 : decode cX9_readBeast 24 = .ok (.bipush 44, 2) := by decide +kernel
theorem dX9_readBeast_26 : decode cX9_readBeast 26 = .ok (.invokevirtual 112, 3) := by decide +kernel
theorem dX9_readBeast_29 : decode cX9_readBeast 29 = .ok (.istore_n 1, 1) := by decide +kernel
theorem dX9_readBeast_30 : decode cX9_readBeast 30 = .ok (.aload_n 0, 1) := by decide +kernel
theorem dX9_readBeast_31 : decode cX9_readBeast 31 = .ok (.iconst 1, 1) := by decide +kernel
theorem dX9_readBeast_32 : decode cX9_readBeast 32 = .ok (.bipush 9, 2) := by decide +kernel
theorem dX9_readBeast_34 : decode cX9_readBeast 34 = .ok (.bipush 44, 2) := by decide +kernel
theorem dX9_readBeast_36 : decode cX9_readBeast 36 = .ok (.invokevirtual 112, 3) := by decide +kernel
theorem dX9_readBeast_39 : decode cX9_readBeast 39 = .ok (.istore_n 2, 1) := by decide +kernel
theorem dX9_readBeast_40 : decode cX9_readBeast 40 = .ok (.aload_n 0, 1) := by decide +kernel
theorem dX9_readBeast_41 : decode cX9_readBeast 41 = .ok (.iconst 0, 1) := by decide +kernel
theorem dX9_readBeast_42 : decode cX9_readBeast 42 = .ok (.iconst 3, 1) := by decide +kernel
theorem dX9_readBeast_43 : decode cX9_readBeast 43 = .ok (.bipush 44, 2) := by decide +kernel
theorem dX9_readBeast_45 : decode cX9_readBeast 45 = .ok (.invokevirtual 112, 3) := by decide +kernel
theorem dX9_readBeast_48 : decode cX9_readBeast 48 = .ok (.istore_n 3, 1) := by decide +kernel
theorem dX9_readBeast_49 : decode cX9_readBeast 49 = .ok (.aload_n 0, 1) := by decide +kernel
theorem dX9_readBeast_50 : decode cX9_readBeast 50 = .ok (.iconst 0, 1) := by decide +kernel
theorem dX9_readBeast_51 : decode cX9_readBeast 51 = .ok (.bipush 30, 2) := by decide +kernel
theorem dX9_readBeast_53 : decode cX9_readBeast 53 = .ok (.bipush 59, 2) := by decide +kernel
theorem dX9_readBeast_55 : decode cX9_readBeast 55 = .ok (.invokevirtual 112, 3) := by decide +kernel
theorem dX9_readBeast_58 : decode cX9_readBeast 58 = .ok (.istore 4, 2) := by decide +kernel
theorem dX9_readBeast_60 : decode cX9_readBeast 60 = .ok (.aload_n 0, 1) := by decide +kernel
theorem dX9_readBeast_61 : decode cX9_readBeast 61 = .ok (.getfield 108, 3) := by decide +kernel
theorem dX9_readBeast_64 : decode cX9_readBeast 64 = .ok (.ifCond .eq 68, 3) := by decide +kernel
theorem dX9_readBeast_67 : decode cX9_readBeast 67 = .ok (.bipush 8, 2) := by decide +kernel
theorem dX9_readBeast_69 : decode cX9_readBeast 69 = .ok (.aload_n 0, 1) := by decide +kernel
theorem dX9_readBeast_70 : decode cX9_readBeast 70 = .ok (.getfield 13, 3) := by decide +kernel
theorem dX9_readBeast_73 : decode cX9_readBeast 73 = .ok (.iconst 1, 1) := by decide +kernel
theorem dX9_readBeast_74 : decode cX9_readBeast 74 = .ok (.iaload, 1) := by decide +kernel
theorem dX9_readBeast_75 : decode cX9_readBeast 75 = .ok (.iadd, 1) := by decide +kernel
theorem dX9_readBeast_76 : decode cX9_readBeast 76 = .ok (.istore 5, 2) := by decide +kernel
theorem dX9_readBeast_78 : decode cX9_readBeast 78 = .ok (.aload_n 0, 1) := by decide +kernel
theorem dX9_readBeast_79 : decode cX9_readBeast 79 = .ok (.iload 5, 2) := by decide +kernel
theorem dX9_readBeast_81 : decode cX9_readBeast 81 = .ok (.iload_n 1, 1) := by decide +kernel
theorem dX9_readBeast_82 : decode cX9_readBeast 82 = .ok (.iload_n 2, 1) := by decide +kernel
theorem dX9_readBeast_83 : decode cX9_readBeast 83 = .ok (.iload_n 3, 1) := by decide +kernel
theorem dX9_readBeast_84 : decode cX9_readBeast 84 = .ok (.iload 4, 2) := by decide +kernel
theorem dX9_readBeast_86 : decode cX9_readBeast 86 = .ok (.invokevirtual 86, 3) := by decide +kernel
theorem dX9_readBeast_89 : decode cX9_readBeast 89 = .ok (.aload_n 0, 1) := by decide +kernel
theorem dX9_readBeast_90 : decode cX9_readBeast 90 = .ok (.getfield 41, 3) := by decide +kernel
theorem dX9_readBeast_93 : decode cX9_readBeast 93 = .ok (.iload 5, 2) := by decide +kernel
theorem dX9_readBeast_95 : decode cX9_readBeast 95 = .ok (.bipush (-4), 2) := by decide +kernel
theorem dX9_readBeast_97 : decode cX9_readBeast 97 = .ok (.iastore, 1) := by decide +kernel
theorem dX9_readBeast_98 : decode cX9_readBeast 98 = .ok (.aload_n 0, 1) := by decide +kernel
theorem dX9_readBeast_99 : decode cX9_readBeast 99 = .ok (.getfield 50, 3) := by decide +kernel
theorem dX9_readBeast_102 : decode cX9_readBeast 102 = .ok (.iload 5, 2) := by decide +kernel
theorem dX9_readBeast_104 : decode cX9_readBeast 104 = .ok (.iconst 0, 1) := by decide +kernel
theorem dX9_readBeast_105 : decode cX9_readBeast 105 = .ok (.iastore, 1) := by decide +kernel
theorem dX9_readBeast_106 : decode cX9_readBeast 106 = .ok (.aload_n 0, 1) := by decide +kernel
theorem dX9_readBeast_107 : decode cX9_readBeast 107 = .ok (.getfield 56, 3) := by decide +kernel
theorem dX9_readBeast_110 : decode cX9_readBeast 110 = .ok (.iload 5, 2) := by decide +kernel
theorem dX9_readBeast_112 : decode cX9_readBeast 112 = .ok (.iconst 0, 1) := by decide +kernel
theorem dX9_readBeast_113 : decode cX9_readBeast 113 = .ok (.iastore, 1) := by decide +kernel
theorem dX9_readBeast_114 : decode cX9_readBeast 114 = .ok (.aload_n 0, 1) := by decide +kernel
theorem dX9_readBeast_115 : decode cX9_readBeast 115 = .ok (.getfield 59, 3) := by decide +kernel
theorem dX9_readBeast_118 : decode cX9_readBeast 118 = .ok (.iload 5, 2) := by decide +kernel
theorem dX9_readBeast_120 : decode cX9_readBeast 120 = .ok (.iconst 0, 1) := by decide +kernel
theorem dX9_readBeast_121 : decode cX9_readBeast 121 = .ok (.iastore, 1) := by decide +kernel
theorem dX9_readBeast_122 : decode cX9_readBeast 122 = .ok (.aload_n 0, 1) := by decide +kernel
theorem dX9_readBeast_123 : decode cX9_readBeast 123 = .ok (.getfield 13, 3) := by decide +kernel
theorem dX9_readBeast_126 : decode cX9_readBeast 126 = .ok (.iconst 1, 1) := by decide +kernel
theorem dX9_readBeast_127 : decode cX9_readBeast 127 = .ok (.dup2, 1) := by decide +kernel
theorem dX9_readBeast_128 : decode cX9_readBeast 128 = .ok (.iaload, 1) := by decide +kernel
theorem dX9_readBeast_129 : decode cX9_readBeast 129 = .ok (.iconst 1, 1) := by decide +kernel
theorem dX9_readBeast_130 : decode cX9_readBeast 130 = .ok (.iadd, 1) := by decide +kernel
theorem dX9_readBeast_131 : decode cX9_readBeast 131 = .ok (.iastore, 1) := by decide +kernel
theorem dX9_readBeast_132 : decode cX9_readBeast 132 = .ok (.return_, 1) := by decide +kernel
theorem dX9_readRaft_0 : decode cX9_readRaft 0 = .ok (.aload_n 0, 1) := by decide +kernel
theorem dX9_readRaft_1 : decode cX9_readRaft 1 = .ok (.aload_n 0, 1) := by decide +kernel
theorem dX9_readRaft_2 : decode cX9_readRaft 2 = .ok (.getfield 44, 3) := by decide +kernel
theorem dX9_readRaft_5 : decode cX9_readRaft 5 = .ok (.iconst 1, 1) := by decide +kernel
theorem dX9_readRaft_6 : decode cX9_readRaft 6 = .ok (.iaload, 1) := by decide +kernel
theorem dX9_readRaft_7 : decode cX9_readRaft 7 = .ok (.iconst 2, 1) := by decide +kernel
theorem dX9_readRaft_8 : decode cX9_readRaft 8 = .ok (.if_icmp .ge 7, 3) := by decide +kernel
theorem dX9_readRaft_11 : decode cX9_readRaft 11 = .ok (.iconst 1, 1) := by decide +kernel
theorem dX9_readRaft_12 : decode cX9_readRaft 12 = .ok (.goto 4, 3) := by decide +kernel
theorem dX9_readRaft_15 : decode cX9_readRaft 15 = .ok (.iconst 0, 1) := by decide +kernel
theorem dX9_readRaft_16 : decode cX9_readRaft 16 = .ok (.putfield 108, 3) := by decide +kernel
theorem dX9_readRaft_19 : decode cX9_readRaft 19 = .ok (.aload_n 0, 1) := by decide +kernel
theorem dX9_readRaft_20 : decode cX9_readRaft 20 = .ok (.bipush 44, 2) := by decide +kernel
theorem dX9_readRaft_22 : decode cX9_readRaft 22 = .ok (.invokevirtual 116, 3) := by decide +kernel
theorem dX9_readRaft_25 : decode cX9_readRaft 25 = .ok (.istore_n 1, 1) := by decide +kernel
theorem dX9_readRaft_26 : decode cX9_readRaft 26 = .ok (.aload_n 0, 1) := by decide +kernel
theorem dX9_readRaft_27 : decode cX9_readRaft 27 = .ok (.bipush 44, 2) := by decide +kernel
theorem dX9_readRaft_29 : decode cX9_readRaft 29 = .ok (.invokevirtual 116, 3) := by decide +kernel
theorem dX9_readRaft_32 : decode cX9_readRaft 32 = .ok (.istore_n 2, 1) := by decide +kernel
theorem dX9_readRaft_33 : decode cX9_readRaft 33 = .ok (.aload_n 0, 1) := by decide +kernel
theorem dX9_readRaft_34 : decode cX9_readRaft 34 = .ok (.bipush 59, 2) := by decide +kernel
theorem dX9_readRaft_36 : decode cX9_readRaft 36 = .ok (.invokevirtual 116, 3) := by decide +kernel
theorem dX9_readRaft_39 : decode cX9_readRaft 39 = .ok (.istore_n 3, 1) := by decide +kernel
theorem dX9_readRaft_40 : decode cX9_readRaft 40 = .ok (.aload_n 0, 1) := by decide +kernel
theorem dX9_readRaft_41 : decode cX9_readRaft 41 = .ok (.aload_n 0, 1) := by decide +kernel
theorem dX9_readRaft_42 : decode cX9_readRaft 42 = .ok (.getfield 108, 3) := by decide +kernel
theorem dX9_readRaft_45 : decode cX9_readRaft 45 = .ok (.ifCond .eq 22, 3) := by decide +kernel
theorem dX9_readRaft_48 : decode cX9_readRaft 48 = .ok (.iload_n 1, 1) := by decide +kernel
theorem dX9_readRaft_49 : decode cX9_readRaft 49 = .ok (.iload_n 2, 1) := by decide +kernel
theorem dX9_readRaft_50 : decode cX9_readRaft 50 = .ok (.if_icmp .eq 17, 3) := by decide +kernel
theorem dX9_readRaft_53 : decode cX9_readRaft 53 = .ok (.iload_n 1, 1) := by decide +kernel
theorem dX9_readRaft_54 : decode cX9_readRaft 54 = .ok (.iload_n 3, 1) := by decide +kernel
theorem dX9_readRaft_55 : decode cX9_readRaft 55 = .ok (.if_icmp .eq 12, 3) := by decide +kernel
theorem dX9_readRaft_58 : decode cX9_readRaft 58 = .ok (.iload_n 2, 1) := by decide +kernel
theorem dX9_readRaft_59 : decode cX9_readRaft 59 = .ok (.iload_n 3, 1) := by decide +kernel
theorem dX9_readRaft_60 : decode cX9_readRaft 60 = .ok (.if_icmp .eq 7, 3) := by decide +kernel
theorem dX9_readRaft_63 : decode cX9_readRaft 63 = .ok (.iconst 1, 1) := by decide +kernel
theorem dX9_readRaft_64 : decode cX9_readRaft 64 = .ok (.goto 4, 3) := by decide +kernel
theorem dX9_readRaft_67 : decode cX9_readRaft 67 = .ok (.iconst 0, 1) := by decide +kernel
theorem dX9_readRaft_68 : decode cX9_readRaft 68 = .ok (.putfield 108, 3) := by decide +kernel
theorem dX9_readRaft_71 : decode cX9_readRaft 71 = .ok (.aload_n 0, 1) := by decide +kernel
theorem dX9_readRaft_72 : decode cX9_readRaft 72 = .ok (.getfield 108, 3) := by decide +kernel
theorem dX9_readRaft_75 : decode cX9_readRaft 75 = .ok (.ifCond .eq 64, 3) := by decide +kernel
theorem dX9_readRaft_78 : decode cX9_readRaft 78 = .ok (.aload_n 0, 1) := by decide +kernel
theorem dX9_readRaft_79 : decode cX9_readRaft 79 = .ok (.getfield 47, 3) := by decide +kernel
theorem dX9_readRaft_82 : decode cX9_readRaft 82 = .ok (.bipush 6, 2) := by decide +kernel
theorem dX9_readRaft_84 : decode cX9_readRaft 84 = .ok (.iconst 3, 1) := by decide +kernel
theorem dX9_readRaft_85 : decode cX9_readRaft 85 = .ok (.aload_n 0, 1) := by decide +kernel
theorem dX9_readRaft_86 : decode cX9_readRaft 86 = .ok (.getfield 44, 3) := by decide +kernel
theorem dX9_readRaft_89 : decode cX9_readRaft 89 = .ok (.iconst 1, 1) := by decide +kernel
theorem dX9_readRaft_90 : decode cX9_readRaft 90 = .ok (.iaload, 1) := by decide +kernel
theorem dX9_readRaft_91 : decode cX9_readRaft 91 = .ok (.imul, 1) := by decide +kernel
theorem dX9_readRaft_92 : decode cX9_readRaft 92 = .ok (.iadd, 1) := by decide +kernel
theorem dX9_readRaft_93 : decode cX9_readRaft 93 = .ok (.iload_n 1, 1) := by decide +kernel
theorem dX9_readRaft_94 : decode cX9_readRaft 94 = .ok (.iastore, 1) := by decide +kernel
theorem dX9_readRaft_95 : decode cX9_readRaft 95 = .ok (.aload_n 0, 1) := by decide +kernel
theorem dX9_readRaft_96 : decode cX9_readRaft 96 = .ok (.getfield 47, 3) := by decide +kernel
theorem dX9_readRaft_99 : decode cX9_readRaft 99 = .ok (.bipush 7, 2) := by decide +kernel
theorem dX9_readRaft_101 : decode cX9_readRaft 101 = .ok (.iconst 3, 1) := by decide +kernel
theorem dX9_readRaft_102 : decode cX9_readRaft 102 = .ok (.aload_n 0, 1) := by decide +kernel
theorem dX9_readRaft_103 : decode cX9_readRaft 103 = .ok (.getfield 44, 3) := by decide +kernel
theorem dX9_readRaft_106 : decode cX9_readRaft 106 = .ok (.iconst 1, 1) := by decide +kernel
theorem dX9_readRaft_107 : decode cX9_readRaft 107 = .ok (.iaload, 1) := by decide +kernel
theorem dX9_readRaft_108 : decode cX9_readRaft 108 = .ok (.imul, 1) := by decide +kernel
theorem dX9_readRaft_109 : decode cX9_readRaft 109 = .ok (.iadd, 1) := by decide +kernel
theorem dX9_readRaft_110 : decode cX9_readRaft 110 = .ok (.iload_n 2, 1) := by decide +kernel
theorem dX9_readRaft_111 : decode cX9_readRaft 111 = .ok (.iastore, 1) := by decide +kernel
theorem dX9_readRaft_112 : decode cX9_readRaft 112 = .ok (.aload_n 0, 1) := by decide +kernel
theorem dX9_readRaft_113 : decode cX9_readRaft 113 = .ok (.getfield 47, 3) := by decide +kernel
theorem dX9_readRaft_116 : decode cX9_readRaft 116 = .ok (.bipush 8, 2) := by decide +kernel
theorem dX9_readRaft_118 : decode cX9_readRaft 118 = .ok (.iconst 3, 1) := by decide +kernel
theorem dX9_readRaft_119 : decode cX9_readRaft 119 = .ok (.aload_n 0, 1) := by decide +kernel
theorem dX9_readRaft_120 : decode cX9_readRaft 120 = .ok (.getfield 44, 3) := by decide +kernel
theorem dX9_readRaft_123 : decode cX9_readRaft 123 = .ok (.iconst 1, 1) := by decide +kernel
theorem dX9_readRaft_124 : decode cX9_readRaft 124 = .ok (.iaload, 1) := by decide +kernel
theorem dX9_readRaft_125 : decode cX9_readRaft 125 = .ok (.imul, 1) := by decide +kernel
theorem dX9_readRaft_126 : decode cX9_readRaft 126 = .ok (.iadd, 1) := by decide +kernel
theorem dX9_readRaft_127 : decode cX9_readRaft 127 = .ok (.iload_n 3, 1) := by decide +kernel
theorem dX9_readRaft_128 : decode cX9_readRaft 128 = .ok (.iastore, 1) := by decide +kernel
theorem dX9_readRaft_129 : decode cX9_readRaft 129 = .ok (.aload_n 0, 1) := by decide +kernel
theorem dX9_readRaft_130 : decode cX9_readRaft 130 = .ok (.getfield 44, 3) := by decide +kernel
theorem dX9_readRaft_133 : decode cX9_readRaft 133 = .ok (.iconst 1, 1) := by decide +kernel
theorem dX9_readRaft_134 : decode cX9_readRaft 134 = .ok (.dup2, 1) := by decide +kernel
theorem dX9_readRaft_135 : decode cX9_readRaft 135 = .ok (.iaload, 1) := by decide +kernel
theorem dX9_readRaft_136 : decode cX9_readRaft 136 = .ok (.iconst 1, 1) := by decide +kernel
theorem dX9_readRaft_137 : decode cX9_readRaft 137 = .ok (.iadd, 1) := by decide +kernel
theorem dX9_readRaft_138 : decode cX9_readRaft 138 = .ok (.iastore, 1) := by decide +kernel
theorem dX9_readRaft_139 : decode cX9_readRaft 139 = .ok (.return_, 1) := by decide +kernel
theorem dX9_readCurrent_0 : decode cX9_readCurrent 0 = .ok (.aload_n 0, 1) := by decide +kernel
theorem dX9_readCurrent_1 : decode cX9_readCurrent 1 = .ok (.aload_n 0, 1) := by decide +kernel
theorem dX9_readCurrent_2 : decode cX9_readCurrent 2 = .ok (.getfield 32, 3) := by decide +kernel
theorem dX9_readCurrent_5 : decode cX9_readCurrent 5 = .ok (.iconst 1, 1) := by decide +kernel
theorem dX9_readCurrent_6 : decode cX9_readCurrent 6 = .ok (.iaload, 1) := by decide +kernel
theorem dX9_readCurrent_7 : decode cX9_readCurrent 7 = .ok (.iconst 4, 1) := by decide +kernel
theorem dX9_readCurrent_8 : decode cX9_readCurrent 8 = .ok (.if_icmp .ge 7, 3) := by decide +kernel
theorem dX9_readCurrent_11 : decode cX9_readCurrent 11 = .ok (.iconst 1, 1) := by decide +kernel
theorem dX9_readCurrent_12 : decode cX9_readCurrent 12 = .ok (.goto 4, 3) := by decide +kernel
theorem dX9_readCurrent_15 : decode cX9_readCurrent 15 = .ok (.iconst 0, 1) := by decide +kernel
theorem dX9_readCurrent_16 : decode cX9_readCurrent 16 = .ok (.putfield 108, 3) := by decide +kernel
theorem dX9_readCurrent_19 : decode cX9_readCurrent 19 = .ok (.aload_n 0, 1) := by decide +kernel
theorem dX9_readCurrent_20 : decode cX9_readCurrent 20 = .ok (.iconst 0, 1) := by decide +kernel
theorem dX9_readCurrent_21 : decode cX9_readCurrent 21 = .ok (.bipush 99, 2) := by decide +kernel
theorem dX9_readCurrent_23 : decode cX9_readCurrent 23 = .ok (.bipush 44, 2) := by decide +kernel
theorem dX9_readCurrent_25 : decode cX9_readCurrent 25 = .ok (.invokevirtual 112, 3) := by decide +kernel
theorem dX9_readCurrent_28 : decode cX9_readCurrent 28 = .ok (.istore_n 1, 1) := by decide +kernel
theorem dX9_readCurrent_29 : decode cX9_readCurrent 29 = .ok (.aload_n 0, 1) := by decide +kernel
theorem dX9_readCurrent_30 : decode cX9_readCurrent 30 = .ok (.iconst 0, 1) := by decide +kernel
theorem dX9_readCurrent_31 : decode cX9_readCurrent 31 = .ok (.iconst 5, 1) := by decide +kernel
theorem dX9_readCurrent_32 : decode cX9_readCurrent 32 = .ok (.bipush 59, 2) := by decide +kernel
theorem dX9_readCurrent_34 : decode cX9_readCurrent 34 = .ok (.invokevirtual 112, 3) := by decide +kernel
theorem dX9_readCurrent_37 : decode cX9_readCurrent 37 = .ok (.istore_n 2, 1) := by decide +kernel
theorem dX9_readCurrent_38 : decode cX9_readCurrent 38 = .ok (.aload_n 0, 1) := by decide +kernel
theorem dX9_readCurrent_39 : decode cX9_readCurrent 39 = .ok (.getfield 108, 3) := by decide +kernel
theorem dX9_readCurrent_42 : decode cX9_readCurrent 42 = .ok (.ifCond .eq 41, 3) := by decide +kernel
theorem dX9_readCurrent_45 : decode cX9_readCurrent 45 = .ok (.aload_n 0, 1) := by decide +kernel
theorem dX9_readCurrent_46 : decode cX9_readCurrent 46 = .ok (.getfield 35, 3) := by decide +kernel
theorem dX9_readCurrent_49 : decode cX9_readCurrent 49 = .ok (.iconst 4, 1) := by decide +kernel
theorem dX9_readCurrent_50 : decode cX9_readCurrent 50 = .ok (.aload_n 0, 1) := by decide +kernel
theorem dX9_readCurrent_51 : decode cX9_readCurrent 51 = .ok (.getfield 32, 3) := by decide +kernel
theorem dX9_readCurrent_54 : decode cX9_readCurrent 54 = .ok (.iconst 1, 1) := by decide +kernel
theorem dX9_readCurrent_55 : decode cX9_readCurrent 55 = .ok (.iaload, 1) := by decide +kernel
theorem dX9_readCurrent_56 : decode cX9_readCurrent 56 = .ok (.iadd, 1) := by decide +kernel
theorem dX9_readCurrent_57 : decode cX9_readCurrent 57 = .ok (.iload_n 1, 1) := by decide +kernel
theorem dX9_readCurrent_58 : decode cX9_readCurrent 58 = .ok (.iastore, 1) := by decide +kernel
theorem dX9_readCurrent_59 : decode cX9_readCurrent 59 = .ok (.aload_n 0, 1) := by decide +kernel
theorem dX9_readCurrent_60 : decode cX9_readCurrent 60 = .ok (.getfield 38, 3) := by decide +kernel
theorem dX9_readCurrent_63 : decode cX9_readCurrent 63 = .ok (.iconst 4, 1) := by decide +kernel
theorem dX9_readCurrent_64 : decode cX9_readCurrent 64 = .ok (.aload_n 0, 1) := by decide +kernel
theorem dX9_readCurrent_65 : decode cX9_readCurrent 65 = .ok (.getfield 32, 3) := by decide +kernel
theorem dX9_readCurrent_68 : decode cX9_readCurrent 68 = .ok (.iconst 1, 1) := by decide +kernel
theorem dX9_readCurrent_69 : decode cX9_readCurrent 69 = .ok (.iaload, 1) := by decide +kernel
theorem dX9_readCurrent_70 : decode cX9_readCurrent 70 = .ok (.iadd, 1) := by decide +kernel
theorem dX9_readCurrent_71 : decode cX9_readCurrent 71 = .ok (.iload_n 2, 1) := by decide +kernel
theorem dX9_readCurrent_72 : decode cX9_readCurrent 72 = .ok (.iastore, 1) := by decide +kernel
theorem dX9_readCurrent_73 : decode cX9_readCurrent 73 = .ok (.aload_n 0, 1) := by decide +kernel
theorem dX9_readCurrent_74 : decode cX9_readCurrent 74 = .ok (.getfield 32, 3) := by decide +kernel
theorem dX9_readCurrent_77 : decode cX9_readCurrent 77 = .ok (.iconst 1, 1) := by decide +kernel
theorem dX9_readCurrent_78 : decode cX9_readCurrent 78 = .ok (.dup2, 1) := by decide +kernel
theorem dX9_readCurrent_79 : decode cX9_readCurrent 79 = .ok (.iaload, 1) := by decide +kernel
theorem dX9_readCurrent_80 : decode cX9_readCurrent 80 = .ok (.iconst 1, 1) := by decide +kernel
theorem dX9_readCurrent_81 : decode cX9_readCurrent 81 = .ok (.iadd, 1) := by decide +kernel
theorem dX9_readCurrent_82 : decode cX9_readCurrent 82 = .ok (.iastore, 1) := by decide +kernel
theorem dX9_readCurrent_83 : decode cX9_readCurrent 83 = .ok (.return_, 1) := by decide +kernel
theorem dX9_readItem_0 : decode cX9_readItem 0 = .ok (.aload_n 0, 1) := by decide +kernel
theorem dX9_readItem_1 : decode cX9_readItem 1 = .ok (.invokevirtual 104, 3) := by decide +kernel
theorem dX9_readItem_4 : decode cX9_readItem 4 = .ok (.istore_n 1, 1) := by decide +kernel
theorem dX9_readItem_5 : decode cX9_readItem 5 = .ok (.aload_n 0, 1) := by decide +kernel
theorem dX9_readItem_6 : decode cX9_readItem 6 = .ok (.dup, 1) := by decide +kernel
theorem dX9_readItem_7 : decode cX9_readItem 7 = .ok (.getfield 101, 3) := by decide +kernel
theorem dX9_readItem_10 : decode cX9_readItem 10 = .ok (.iconst 1, 1) := by decide +kernel
theorem dX9_readItem_11 : decode cX9_readItem 11 = .ok (.iadd, 1) := by decide +kernel
theorem dX9_readItem_12 : decode cX9_readItem 12 = .ok (.putfield 101, 3) := by decide +kernel
theorem dX9_readItem_15 : decode cX9_readItem 15 = .ok (.aload_n 0, 1) := by decide +kernel
theorem dX9_readItem_16 : decode cX9_readItem 16 = .ok (.iconst 1, 1) := by decide +kernel
theorem dX9_readItem_17 : decode cX9_readItem 17 = .ok (.putfield 108, 3) := by decide +kernel
theorem dX9_readItem_20 : decode cX9_readItem 20 = .ok (.iload_n 1, 1) := by decide +kernel
theorem dX9_readItem_21 : decode cX9_readItem 21 = .ok (.tableswitch 337 97 121 #[202, 115, 140, 337, 337, 337, 337, 337, 337, 337, 337, 337, 337, 337, 337, 337, 337, 147, 209, 337, 337, 263, 122, 337, 300], 115) := by decide +kernel
theorem dX9_readItem_136 : decode cX9_readItem 136 = .ok (.aload_n 0, 1) := by decide +kernel
theorem dX9_readItem_137 : decode cX9_readItem 137 = .ok (.invokevirtual 120, 3) := by decide +kernel
theorem dX9_readItem_140 : decode cX9_readItem 140 = .ok (.goto 223, 3) := by decide +kernel
theorem dX9_readItem_143 : decode cX9_readItem 143 = .ok (.aload_n 0, 1) := by decide +kernel
theorem dX9_readItem_144 : decode cX9_readItem 144 = .ok (.getfield 29, 3) := by decide +kernel
theorem dX9_readItem_147 : decode cX9_readItem 147 = .ok (.iconst 1, 1) := by decide +kernel
theorem dX9_readItem_148 : decode cX9_readItem 148 = .ok (.aload_n 0, 1) := by decide +kernel
theorem dX9_readItem_149 : decode cX9_readItem 149 = .ok (.iconst 1, 1) := by decide +kernel
theorem dX9_readItem_150 : decode cX9_readItem 150 = .ok (.bipush 99, 2) := by decide +kernel
theorem dX9_readItem_152 : decode cX9_readItem 152 = .ok (.bipush 59, 2) := by decide +kernel
theorem dX9_readItem_154 : decode cX9_readItem 154 = .ok (.invokevirtual 112, 3) := by decide +kernel
theorem dX9_readItem_157 : decode cX9_readItem 157 = .ok (.iastore, 1) := by decide +kernel
theorem dX9_readItem_158 : decode cX9_readItem 158 = .ok (.goto 205, 3) := by decide +kernel
theorem dX9_readItem_161 : decode cX9_readItem 161 = .ok (.aload_n 0, 1) := by decide +kernel
theorem dX9_readItem_162 : decode cX9_readItem 162 = .ok (.invokevirtual 123, 3) := by decide +kernel
theorem dX9_readItem_165 : decode cX9_readItem 165 = .ok (.goto 198, 3) := by decide +kernel
theorem dX9_readItem_168 : decode cX9_readItem 168 = .ok (.aload_n 0, 1) := by decide +kernel
theorem dX9_readItem_169 : decode cX9_readItem 169 = .ok (.bipush 44, 2) := by decide +kernel
theorem dX9_readItem_171 : decode cX9_readItem 171 = .ok (.invokevirtual 116, 3) := by decide +kernel
theorem dX9_readItem_174 : decode cX9_readItem 174 = .ok (.istore_n 2, 1) := by decide +kernel
theorem dX9_readItem_175 : decode cX9_readItem 175 = .ok (.aload_n 0, 1) := by decide +kernel
theorem dX9_readItem_176 : decode cX9_readItem 176 = .ok (.bipush 59, 2) := by decide +kernel
theorem dX9_readItem_178 : decode cX9_readItem 178 = .ok (.invokevirtual 116, 3) := by decide +kernel
theorem dX9_readItem_181 : decode cX9_readItem 181 = .ok (.istore_n 3, 1) := by decide +kernel
theorem dX9_readItem_182 : decode cX9_readItem 182 = .ok (.aload_n 0, 1) := by decide +kernel
theorem dX9_readItem_183 : decode cX9_readItem 183 = .ok (.aload_n 0, 1) := by decide +kernel
theorem dX9_readItem_184 : decode cX9_readItem 184 = .ok (.getfield 108, 3) := by decide +kernel
theorem dX9_readItem_187 : decode cX9_readItem 187 = .ok (.ifCond .eq 12, 3) := by decide +kernel
theorem dX9_readItem_190 : decode cX9_readItem 190 = .ok (.iload_n 2, 1) := by decide +kernel
theorem dX9_readItem_191 : decode cX9_readItem 191 = .ok (.iload_n 3, 1) := by decide +kernel
theorem dX9_readItem_192 : decode cX9_readItem 192 = .ok (.if_icmp .eq 7, 3) := by decide +kernel
theorem dX9_readItem_195 : decode cX9_readItem 195 = .ok (.iconst 1, 1) := by decide +kernel
theorem dX9_readItem_196 : decode cX9_readItem 196 = .ok (.goto 4, 3) := by decide +kernel
theorem dX9_readItem_199 : decode cX9_readItem 199 = .ok (.iconst 0, 1) := by decide +kernel
theorem dX9_readItem_200 : decode cX9_readItem 200 = .ok (.putfield 108, 3) := by decide +kernel
theorem dX9_readItem_203 : decode cX9_readItem 203 = .ok (.aload_n 0, 1) := by decide +kernel
theorem dX9_readItem_204 : decode cX9_readItem 204 = .ok (.getfield 108, 3) := by decide +kernel
theorem dX9_readItem_207 : decode cX9_readItem 207 = .ok (.ifCond .eq 156, 3) := by decide +kernel
theorem dX9_readItem_210 : decode cX9_readItem 210 = .ok (.aload_n 0, 1) := by decide +kernel
theorem dX9_readItem_211 : decode cX9_readItem 211 = .ok (.getfield 41, 3) := by decide +kernel
theorem dX9_readItem_214 : decode cX9_readItem 214 = .ok (.bipush 8, 2) := by decide +kernel
theorem dX9_readItem_216 : decode cX9_readItem 216 = .ok (.iload_n 2, 1) := by decide +kernel
theorem dX9_readItem_217 : decode cX9_readItem 217 = .ok (.iadd, 1) := by decide +kernel
theorem dX9_readItem_218 : decode cX9_readItem 218 = .ok (.iload_n 3, 1) := by decide +kernel
theorem dX9_readItem_219 : decode cX9_readItem 219 = .ok (.iastore, 1) := by decide +kernel
theorem dX9_readItem_220 : decode cX9_readItem 220 = .ok (.goto 143, 3) := by decide +kernel
theorem dX9_readItem_223 : decode cX9_readItem 223 = .ok (.aload_n 0, 1) := by decide +kernel
theorem dX9_readItem_224 : decode cX9_readItem 224 = .ok (.invokevirtual 126, 3) := by decide +kernel
theorem dX9_readItem_227 : decode cX9_readItem 227 = .ok (.goto 136, 3) := by decide +kernel
theorem dX9_readItem_230 : decode cX9_readItem 230 = .ok (.aload_n 0, 1) := by decide +kernel
theorem dX9_readItem_231 : decode cX9_readItem 231 = .ok (.bipush 59, 2) := by decide +kernel
theorem dX9_readItem_233 : decode cX9_readItem 233 = .ok (.invokevirtual 116, 3) := by decide +kernel
theorem dX9_readItem_236 : decode cX9_readItem 236 = .ok (.istore_n 2, 1) := by decide +kernel
theorem dX9_readItem_237 : decode cX9_readItem 237 = .ok (.aload_n 0, 1) := by decide +kernel
theorem dX9_readItem_238 : decode cX9_readItem 238 = .ok (.getfield 108, 3) := by decide +kernel
theorem dX9_readItem_241 : decode cX9_readItem 241 = .ok (.ifCond .eq 122, 3) := by decide +kernel
theorem dX9_readItem_244 : decode cX9_readItem 244 = .ok (.aload_n 0, 1) := by decide +kernel
theorem dX9_readItem_245 : decode cX9_readItem 245 = .ok (.getfield 50, 3) := by decide +kernel
theorem dX9_readItem_248 : decode cX9_readItem 248 = .ok (.bipush 8, 2) := by decide +kernel
theorem dX9_readItem_250 : decode cX9_readItem 250 = .ok (.iload_n 2, 1) := by decide +kernel
theorem dX9_readItem_251 : decode cX9_readItem 251 = .ok (.iadd, 1) := by decide +kernel
theorem dX9_readItem_252 : decode cX9_readItem 252 = .ok (.iaload, 1) := by decide +kernel
theorem dX9_readItem_253 : decode cX9_readItem 253 = .ok (.ifCond .ne 110, 3) := by decide +kernel
theorem dX9_readItem_256 : decode cX9_readItem 256 = .ok (.aload_n 0, 1) := by decide +kernel
theorem dX9_readItem_257 : decode cX9_readItem 257 = .ok (.getfield 53, 3) := by decide +kernel
theorem dX9_readItem_260 : decode cX9_readItem 260 = .ok (.iconst 1, 1) := by decide +kernel
theorem dX9_readItem_261 : decode cX9_readItem 261 = .ok (.dup2, 1) := by decide +kernel
theorem dX9_readItem_262 : decode cX9_readItem 262 = .ok (.iaload, 1) := by decide +kernel
theorem dX9_readItem_263 : decode cX9_readItem 263 = .ok (.iconst 1, 1) := by decide +kernel
theorem dX9_readItem_264 : decode cX9_readItem 264 = .ok (.iadd, 1) := by decide +kernel
theorem dX9_readItem_265 : decode cX9_readItem 265 = .ok (.iastore, 1) := by decide +kernel
theorem dX9_readItem_266 : decode cX9_readItem 266 = .ok (.aload_n 0, 1) := by decide +kernel
theorem dX9_readItem_267 : decode cX9_readItem 267 = .ok (.getfield 50, 3) := by decide +kernel
theorem dX9_readItem_270 : decode cX9_readItem 270 = .ok (.bipush 8, 2) := by decide +kernel
theorem dX9_readItem_272 : decode cX9_readItem 272 = .ok (.iload_n 2, 1) := by decide +kernel
theorem dX9_readItem_273 : decode cX9_readItem 273 = .ok (.iadd, 1) := by decide +kernel
theorem dX9_readItem_274 : decode cX9_readItem 274 = .ok (.aload_n 0, 1) := by decide +kernel
theorem dX9_readItem_275 : decode cX9_readItem 275 = .ok (.getfield 53, 3) := by decide +kernel
theorem dX9_readItem_278 : decode cX9_readItem 278 = .ok (.iconst 1, 1) := by decide +kernel
theorem dX9_readItem_279 : decode cX9_readItem 279 = .ok (.iaload, 1) := by decide +kernel
theorem dX9_readItem_280 : decode cX9_readItem 280 = .ok (.iastore, 1) := by decide +kernel
theorem dX9_readItem_281 : decode cX9_readItem 281 = .ok (.goto 82, 3) := by decide +kernel
theorem dX9_readItem_284 : decode cX9_readItem 284 = .ok (.aload_n 0, 1) := by decide +kernel
theorem dX9_readItem_285 : decode cX9_readItem 285 = .ok (.bipush 44, 2) := by decide +kernel
theorem dX9_readItem_287 : decode cX9_readItem 287 = .ok (.invokevirtual 116, 3) := by decide +kernel
theorem dX9_readItem_290 : decode cX9_readItem 290 = .ok (.istore_n 2, 1) := by decide +kernel
theorem dX9_readItem_291 : decode cX9_readItem 291 = .ok (.aload_n 0, 1) := by decide +kernel
theorem dX9_readItem_292 : decode cX9_readItem 292 = .ok (.iconst 1, 1) := by decide +kernel
theorem dX9_readItem_293 : decode cX9_readItem 293 = .ok (.bipush 8, 2) := by decide +kernel
theorem dX9_readItem_295 : decode cX9_readItem 295 = .ok (.bipush 59, 2) := by decide +kernel
theorem dX9_readItem_297 : decode cX9_readItem 297 = .ok (.invokevirtual 112, 3) := by decide +kernel
theorem dX9_readItem_300 : decode cX9_readItem 300 = .ok (.istore_n 3, 1) := by decide +kernel
theorem dX9_readItem_301 : decode cX9_readItem 301 = .ok (.aload_n 0, 1) := by decide +kernel
theorem dX9_readItem_302 : decode cX9_readItem 302 = .ok (.getfield 108, 3) := by decide +kernel
theorem dX9_readItem_305 : decode cX9_readItem 305 = .ok (.ifCond .eq 58, 3) := by decide +kernel
theorem dX9_readItem_308 : decode cX9_readItem 308 = .ok (.aload_n 0, 1) := by decide +kernel
theorem dX9_readItem_309 : decode cX9_readItem 309 = .ok (.getfield 56, 3) := by decide +kernel
theorem dX9_readItem_312 : decode cX9_readItem 312 = .ok (.bipush 8, 2) := by decide +kernel
theorem dX9_readItem_314 : decode cX9_readItem 314 = .ok (.iload_n 2, 1) := by decide +kernel
theorem dX9_readItem_315 : decode cX9_readItem 315 = .ok (.iadd, 1) := by decide +kernel
theorem dX9_readItem_316 : decode cX9_readItem 316 = .ok (.iload_n 3, 1) := by decide +kernel
theorem dX9_readItem_317 : decode cX9_readItem 317 = .ok (.iastore, 1) := by decide +kernel
theorem dX9_readItem_318 : decode cX9_readItem 318 = .ok (.goto 45, 3) := by decide +kernel
theorem dX9_readItem_321 : decode cX9_readItem 321 = .ok (.aload_n 0, 1) := by decide +kernel
theorem dX9_readItem_322 : decode cX9_readItem 322 = .ok (.bipush 44, 2) := by decide +kernel
theorem dX9_readItem_324 : decode cX9_readItem 324 = .ok (.invokevirtual 116, 3) := by decide +kernel
theorem dX9_readItem_327 : decode cX9_readItem 327 = .ok (.istore_n 2, 1) := by decide +kernel
theorem dX9_readItem_328 : decode cX9_readItem 328 = .ok (.aload_n 0, 1) := by decide +kernel
theorem dX9_readItem_329 : decode cX9_readItem 329 = .ok (.iconst 0, 1) := by decide +kernel
theorem dX9_readItem_330 : decode cX9_readItem 330 = .ok (.bipush 99, 2) := by decide +kernel
theorem dX9_readItem_332 : decode cX9_readItem 332 = .ok (.bipush 59, 2) := by decide +kernel
theorem dX9_readItem_334 : decode cX9_readItem 334 = .ok (.invokevirtual 112, 3) := by decide +kernel
theorem dX9_readItem_337 : decode cX9_readItem 337 = .ok (.istore_n 3, 1) := by decide +kernel
theorem dX9_readItem_338 : decode cX9_readItem 338 = .ok (.aload_n 0, 1) := by decide +kernel
theorem dX9_readItem_339 : decode cX9_readItem 339 = .ok (.getfield 108, 3) := by decide +kernel
theorem dX9_readItem_342 : decode cX9_readItem 342 = .ok (.ifCond .eq 21, 3) := by decide +kernel
theorem dX9_readItem_345 : decode cX9_readItem 345 = .ok (.aload_n 0, 1) := by decide +kernel
theorem dX9_readItem_346 : decode cX9_readItem 346 = .ok (.getfield 59, 3) := by decide +kernel
theorem dX9_readItem_349 : decode cX9_readItem 349 = .ok (.bipush 8, 2) := by decide +kernel
theorem dX9_readItem_351 : decode cX9_readItem 351 = .ok (.iload_n 2, 1) := by decide +kernel
theorem dX9_readItem_352 : decode cX9_readItem 352 = .ok (.iadd, 1) := by decide +kernel
theorem dX9_readItem_353 : decode cX9_readItem 353 = .ok (.iload_n 3, 1) := by decide +kernel
theorem dX9_readItem_354 : decode cX9_readItem 354 = .ok (.iastore, 1) := by decide +kernel
theorem dX9_readItem_355 : decode cX9_readItem 355 = .ok (.goto 8, 3) := by decide +kernel
theorem dX9_readItem_358 : decode cX9_readItem 358 = .ok (.aload_n 0, 1) := by decide +kernel
theorem dX9_readItem_359 : decode cX9_readItem 359 = .ok (.iconst 0, 1) := by decide +kernel
theorem dX9_readItem_360 : decode cX9_readItem 360 = .ok (.putfield 108, 3) := by decide +kernel
theorem dX9_readItem_363 : decode cX9_readItem 363 = .ok (.return_, 1) := by decide +kernel
theorem dX9_fault_0 : decode cX9_fault 0 = .ok (.aload_n 0, 1) := by decide +kernel
theorem dX9_fault_1 : decode cX9_fault 1 = .ok (.iconst 0, 1) := by decide +kernel
theorem dX9_fault_2 : decode cX9_fault 2 = .ok (.putfield 101, 3) := by decide +kernel
theorem dX9_fault_5 : decode cX9_fault 5 = .ok (.aload_n 0, 1) := by decide +kernel
theorem dX9_fault_6 : decode cX9_fault 6 = .ok (.getfield 13, 3) := by decide +kernel
theorem dX9_fault_9 : decode cX9_fault 9 = .ok (.iconst 1, 1) := by decide +kernel
theorem dX9_fault_10 : decode cX9_fault 10 = .ok (.iconst 0, 1) := by decide +kernel
theorem dX9_fault_11 : decode cX9_fault 11 = .ok (.iastore, 1) := by decide +kernel
theorem dX9_fault_12 : decode cX9_fault 12 = .ok (.aload_n 0, 1) := by decide +kernel
theorem dX9_fault_13 : decode cX9_fault 13 = .ok (.getfield 29, 3) := by decide +kernel
theorem dX9_fault_16 : decode cX9_fault 16 = .ok (.iconst 1, 1) := by decide +kernel
theorem dX9_fault_17 : decode cX9_fault 17 = .ok (.bipush 30, 2) := by decide +kernel
theorem dX9_fault_19 : decode cX9_fault 19 = .ok (.iastore, 1) := by decide +kernel
theorem dX9_fault_20 : decode cX9_fault 20 = .ok (.aload_n 0, 1) := by decide +kernel
theorem dX9_fault_21 : decode cX9_fault 21 = .ok (.getfield 32, 3) := by decide +kernel
theorem dX9_fault_24 : decode cX9_fault 24 = .ok (.iconst 1, 1) := by decide +kernel
theorem dX9_fault_25 : decode cX9_fault 25 = .ok (.iconst 0, 1) := by decide +kernel
theorem dX9_fault_26 : decode cX9_fault 26 = .ok (.iastore, 1) := by decide +kernel
theorem dX9_fault_27 : decode cX9_fault 27 = .ok (.aload_n 0, 1) := by decide +kernel
theorem dX9_fault_28 : decode cX9_fault 28 = .ok (.getfield 44, 3) := by decide +kernel
theorem dX9_fault_31 : decode cX9_fault 31 = .ok (.iconst 1, 1) := by decide +kernel
theorem dX9_fault_32 : decode cX9_fault 32 = .ok (.iconst 0, 1) := by decide +kernel
theorem dX9_fault_33 : decode cX9_fault 33 = .ok (.iastore, 1) := by decide +kernel
theorem dX9_fault_34 : decode cX9_fault 34 = .ok (.aload_n 0, 1) := by decide +kernel
theorem dX9_fault_35 : decode cX9_fault 35 = .ok (.getfield 53, 3) := by decide +kernel
theorem dX9_fault_38 : decode cX9_fault 38 = .ok (.iconst 1, 1) := by decide +kernel
theorem dX9_fault_39 : decode cX9_fault 39 = .ok (.iconst 0, 1) := by decide +kernel
theorem dX9_fault_40 : decode cX9_fault 40 = .ok (.iastore, 1) := by decide +kernel
theorem dX9_fault_41 : decode cX9_fault 41 = .ok (.aload_n 0, 1) := by decide +kernel
theorem dX9_fault_42 : decode cX9_fault 42 = .ok (.getfield 101, 3) := by decide +kernel
theorem dX9_fault_45 : decode cX9_fault 45 = .ok (.aload_n 0, 1) := by decide +kernel
theorem dX9_fault_46 : decode cX9_fault 46 = .ok (.getfield 97, 3) := by decide +kernel
theorem dX9_fault_49 : decode cX9_fault 49 = .ok (.if_icmp .ge 24, 3) := by decide +kernel
theorem dX9_fault_52 : decode cX9_fault 52 = .ok (.aload_n 0, 1) := by decide +kernel
theorem dX9_fault_53 : decode cX9_fault 53 = .ok (.getfield 101, 3) := by decide +kernel
theorem dX9_fault_56 : decode cX9_fault 56 = .ok (.istore_n 1, 1) := by decide +kernel
theorem dX9_fault_57 : decode cX9_fault 57 = .ok (.aload_n 0, 1) := by decide +kernel
theorem dX9_fault_58 : decode cX9_fault 58 = .ok (.invokevirtual 129, 3) := by decide +kernel
theorem dX9_fault_61 : decode cX9_fault 61 = .ok (.aload_n 0, 1) := by decide +kernel
theorem dX9_fault_62 : decode cX9_fault 62 = .ok (.getfield 108, 3) := by decide +kernel
theorem dX9_fault_65 : decode cX9_fault 65 = .ok (.ifCond .ne 5, 3) := by decide +kernel
theorem dX9_fault_68 : decode cX9_fault 68 = .ok (.iload_n 1, 1) := by decide +kernel
theorem dX9_fault_69 : decode cX9_fault 69 = .ok (.ireturn, 1) := by decide +kernel
theorem dX9_fault_70 : decode cX9_fault 70 = .ok (.goto (-29), 3) := by decide +kernel
theorem dX9_fault_73 : decode cX9_fault 73 = .ok (.bipush (-4), 2) := by decide +kernel
theorem dX9_fault_75 : decode cX9_fault 75 = .ok (.ireturn, 1) := by decide +kernel
theorem dX9_isInRaft_0 : decode cX9_isInRaft 0 = .ok (.iconst 0, 1) := by decide +kernel
theorem dX9_isInRaft_1 : decode cX9_isInRaft 1 = .ok (.istore_n 3, 1) := by decide +kernel
theorem dX9_isInRaft_2 : decode cX9_isInRaft 2 = .ok (.iconst 0, 1) := by decide +kernel
theorem dX9_isInRaft_3 : decode cX9_isInRaft 3 = .ok (.istore 4, 2) := by decide +kernel
theorem dX9_isInRaft_5 : decode cX9_isInRaft 5 = .ok (.iload 4, 2) := by decide +kernel
theorem dX9_isInRaft_7 : decode cX9_isInRaft 7 = .ok (.iconst 3, 1) := by decide +kernel
theorem dX9_isInRaft_8 : decode cX9_isInRaft 8 = .ok (.aload_n 0, 1) := by decide +kernel
theorem dX9_isInRaft_9 : decode cX9_isInRaft 9 = .ok (.getfield 44, 3) := by decide +kernel
theorem dX9_isInRaft_12 : decode cX9_isInRaft 12 = .ok (.iload_n 1, 1) := by decide +kernel
theorem dX9_isInRaft_13 : decode cX9_isInRaft 13 = .ok (.iaload, 1) := by decide +kernel
theorem dX9_isInRaft_14 : decode cX9_isInRaft 14 = .ok (.imul, 1) := by decide +kernel
theorem dX9_isInRaft_15 : decode cX9_isInRaft 15 = .ok (.if_icmp .ge 35, 3) := by decide +kernel
theorem dX9_isInRaft_18 : decode cX9_isInRaft 18 = .ok (.iload_n 3, 1) := by decide +kernel
theorem dX9_isInRaft_19 : decode cX9_isInRaft 19 = .ok (.ifCond .ne 19, 3) := by decide +kernel
theorem dX9_isInRaft_22 : decode cX9_isInRaft 22 = .ok (.aload_n 0, 1) := by decide +kernel
theorem dX9_isInRaft_23 : decode cX9_isInRaft 23 = .ok (.getfield 47, 3) := by decide +kernel
theorem dX9_isInRaft_26 : decode cX9_isInRaft 26 = .ok (.bipush 6, 2) := by decide +kernel
theorem dX9_isInRaft_28 : decode cX9_isInRaft 28 = .ok (.iload_n 1, 1) := by decide +kernel
theorem dX9_isInRaft_29 : decode cX9_isInRaft 29 = .ok (.imul, 1) := by decide +kernel
theorem dX9_isInRaft_30 : decode cX9_isInRaft 30 = .ok (.iload 4, 2) := by decide +kernel
theorem dX9_isInRaft_32 : decode cX9_isInRaft 32 = .ok (.iadd, 1) := by decide +kernel
theorem dX9_isInRaft_33 : decode cX9_isInRaft 33 = .ok (.iaload, 1) := by decide +kernel
theorem dX9_isInRaft_34 : decode cX9_isInRaft 34 = .ok (.iload_n 2, 1) := by decide +kernel
theorem dX9_isInRaft_35 : decode cX9_isInRaft 35 = .ok (.if_icmp .ne 7, 3) := by decide +kernel
theorem dX9_isInRaft_38 : decode cX9_isInRaft 38 = .ok (.iconst 1, 1) := by decide +kernel
theorem dX9_isInRaft_39 : decode cX9_isInRaft 39 = .ok (.goto 4, 3) := by decide +kernel
theorem dX9_isInRaft_42 : decode cX9_isInRaft 42 = .ok (.iconst 0, 1) := by decide +kernel
theorem dX9_isInRaft_43 : decode cX9_isInRaft 43 = .ok (.istore_n 3, 1) := by decide +kernel
theorem dX9_isInRaft_44 : decode cX9_isInRaft 44 = .ok (.iinc 4 1, 3) := by decide +kernel
theorem dX9_isInRaft_47 : decode cX9_isInRaft 47 = .ok (.goto (-42), 3) := by decide +kernel
theorem dX9_isInRaft_50 : decode cX9_isInRaft 50 = .ok (.iload_n 3, 1) := by decide +kernel
theorem dX9_isInRaft_51 : decode cX9_isInRaft 51 = .ok (.ireturn, 1) := by decide +kernel
theorem dX9_canBeLaid_0 : decode cX9_canBeLaid 0 = .ok (.aload_n 0, 1) := by decide +kernel
theorem dX9_canBeLaid_1 : decode cX9_canBeLaid 1 = .ok (.getfield 13, 3) := by decide +kernel
theorem dX9_canBeLaid_4 : decode cX9_canBeLaid 4 = .ok (.iconst 1, 1) := by decide +kernel
theorem dX9_canBeLaid_5 : decode cX9_canBeLaid 5 = .ok (.iaload, 1) := by decide +kernel
theorem dX9_canBeLaid_6 : decode cX9_canBeLaid 6 = .ok (.ifCond .le 7, 3) := by decide +kernel
theorem dX9_canBeLaid_9 : decode cX9_canBeLaid 9 = .ok (.iconst 1, 1) := by decide +kernel
theorem dX9_canBeLaid_10 : decode cX9_canBeLaid 10 = .ok (.goto 4, 3) := by decide +kernel
theorem dX9_canBeLaid_13 : decode cX9_canBeLaid 13 = .ok (.iconst 0, 1) := by decide +kernel
theorem dX9_canBeLaid_14 : decode cX9_canBeLaid 14 = .ok (.istore_n 1, 1) := by decide +kernel
theorem dX9_canBeLaid_15 : decode cX9_canBeLaid 15 = .ok (.iconst 0, 1) := by decide +kernel
theorem dX9_canBeLaid_16 : decode cX9_canBeLaid 16 = .ok (.istore_n 2, 1) := by decide +kernel
theorem dX9_canBeLaid_17 : decode cX9_canBeLaid 17 = .ok (.iload_n 2, 1) := by decide +kernel
theorem dX9_canBeLaid_18 : decode cX9_canBeLaid 18 = .ok (.aload_n 0, 1) := by decide +kernel
theorem dX9_canBeLaid_19 : decode cX9_canBeLaid 19 = .ok (.getfield 13, 3) := by decide +kernel
theorem dX9_canBeLaid_22 : decode cX9_canBeLaid 22 = .ok (.iconst 1, 1) := by decide +kernel
theorem dX9_canBeLaid_23 : decode cX9_canBeLaid 23 = .ok (.iaload, 1) := by decide +kernel
theorem dX9_canBeLaid_24 : decode cX9_canBeLaid 24 = .ok (.if_icmp .ge 58, 3) := by decide +kernel
theorem dX9_canBeLaid_27 : decode cX9_canBeLaid 27 = .ok (.aload_n 0, 1) := by decide +kernel
theorem dX9_canBeLaid_28 : decode cX9_canBeLaid 28 = .ok (.getfield 41, 3) := by decide +kernel
theorem dX9_canBeLaid_31 : decode cX9_canBeLaid 31 = .ok (.bipush 8, 2) := by decide +kernel
theorem dX9_canBeLaid_33 : decode cX9_canBeLaid 33 = .ok (.iload_n 2, 1) := by decide +kernel
theorem dX9_canBeLaid_34 : decode cX9_canBeLaid 34 = .ok (.iadd, 1) := by decide +kernel
theorem dX9_canBeLaid_35 : decode cX9_canBeLaid 35 = .ok (.iaload, 1) := by decide +kernel
theorem dX9_canBeLaid_36 : decode cX9_canBeLaid 36 = .ok (.istore_n 3, 1) := by decide +kernel
theorem dX9_canBeLaid_37 : decode cX9_canBeLaid 37 = .ok (.iload_n 1, 1) := by decide +kernel
theorem dX9_canBeLaid_38 : decode cX9_canBeLaid 38 = .ok (.ifCond .eq 36, 3) := by decide +kernel
theorem dX9_canBeLaid_41 : decode cX9_canBeLaid 41 = .ok (.iload_n 3, 1) := by decide +kernel
theorem dX9_canBeLaid_42 : decode cX9_canBeLaid 42 = .ok (.bipush (-4), 2) := by decide +kernel
theorem dX9_canBeLaid_44 : decode cX9_canBeLaid 44 = .ok (.if_icmp .eq 26, 3) := by decide +kernel
theorem dX9_canBeLaid_47 : decode cX9_canBeLaid 47 = .ok (.aload_n 0, 1) := by decide +kernel
theorem dX9_canBeLaid_48 : decode cX9_canBeLaid 48 = .ok (.getfield 41, 3) := by decide +kernel
theorem dX9_canBeLaid_51 : decode cX9_canBeLaid 51 = .ok (.bipush 8, 2) := by decide +kernel
theorem dX9_canBeLaid_53 : decode cX9_canBeLaid 53 = .ok (.iload_n 3, 1) := by decide +kernel
theorem dX9_canBeLaid_54 : decode cX9_canBeLaid 54 = .ok (.iadd, 1) := by decide +kernel
theorem dX9_canBeLaid_55 : decode cX9_canBeLaid 55 = .ok (.iaload, 1) := by decide +kernel
theorem dX9_canBeLaid_56 : decode cX9_canBeLaid 56 = .ok (.bipush (-4), 2) := by decide +kernel
theorem dX9_canBeLaid_58 : decode cX9_canBeLaid 58 = .ok (.if_icmp .ne 16, 3) := by decide +kernel
theorem dX9_canBeLaid_61 : decode cX9_canBeLaid 61 = .ok (.aload_n 0, 1) := by decide +kernel
theorem dX9_canBeLaid_62 : decode cX9_canBeLaid 62 = .ok (.iconst 1, 1) := by decide +kernel
theorem dX9_canBeLaid_63 : decode cX9_canBeLaid 63 = .ok (.iload_n 2, 1) := by decide +kernel
theorem dX9_canBeLaid_64 : decode cX9_canBeLaid 64 = .ok (.invokevirtual 132, 3) := by decide +kernel
theorem dX9_canBeLaid_67 : decode cX9_canBeLaid 67 = .ok (.ifCond .ne 7, 3) := by decide +kernel
theorem dX9_canBeLaid_70 : decode cX9_canBeLaid 70 = .ok (.iconst 1, 1) := by decide +kernel
theorem dX9_canBeLaid_71 : decode cX9_canBeLaid 71 = .ok (.goto 4, 3) := by decide +kernel
theorem dX9_canBeLaid_74 : decode cX9_canBeLaid 74 = .ok (.iconst 0, 1) := by decide +kernel
theorem dX9_canBeLaid_75 : decode cX9_canBeLaid 75 = .ok (.istore_n 1, 1) := by decide +kernel
theorem dX9_canBeLaid_76 : decode cX9_canBeLaid 76 = .ok (.iinc 2 1, 3) := by decide +kernel
theorem dX9_canBeLaid_79 : decode cX9_canBeLaid 79 = .ok (.goto (-62), 3) := by decide +kernel
theorem dX9_canBeLaid_82 : decode cX9_canBeLaid 82 = .ok (.iconst 0, 1) := by decide +kernel
theorem dX9_canBeLaid_83 : decode cX9_canBeLaid 83 = .ok (.istore_n 2, 1) := by decide +kernel
theorem dX9_canBeLaid_84 : decode cX9_canBeLaid 84 = .ok (.iload_n 2, 1) := by decide +kernel
theorem dX9_canBeLaid_85 : decode cX9_canBeLaid 85 = .ok (.iconst 3, 1) := by decide +kernel
theorem dX9_canBeLaid_86 : decode cX9_canBeLaid 86 = .ok (.if_icmp .ge 63, 3) := by decide +kernel
theorem dX9_canBeLaid_89 : decode cX9_canBeLaid 89 = .ok (.aload_n 0, 1) := by decide +kernel
theorem dX9_canBeLaid_90 : decode cX9_canBeLaid 90 = .ok (.getfield 44, 3) := by decide +kernel
theorem dX9_canBeLaid_93 : decode cX9_canBeLaid 93 = .ok (.iconst 1, 1) := by decide +kernel
theorem dX9_canBeLaid_94 : decode cX9_canBeLaid 94 = .ok (.iaload, 1) := by decide +kernel
theorem dX9_canBeLaid_95 : decode cX9_canBeLaid 95 = .ok (.iconst 2, 1) := by decide +kernel
theorem dX9_canBeLaid_96 : decode cX9_canBeLaid 96 = .ok (.if_icmp .ne 53, 3) := by decide +kernel
theorem dX9_canBeLaid_99 : decode cX9_canBeLaid 99 = .ok (.iconst 0, 1) := by decide +kernel
theorem dX9_canBeLaid_100 : decode cX9_canBeLaid 100 = .ok (.istore_n 3, 1) := by decide +kernel
theorem dX9_canBeLaid_101 : decode cX9_canBeLaid 101 = .ok (.iload_n 3, 1) := by decide +kernel
theorem dX9_canBeLaid_102 : decode cX9_canBeLaid 102 = .ok (.iconst 3, 1) := by decide +kernel
theorem dX9_canBeLaid_103 : decode cX9_canBeLaid 103 = .ok (.if_icmp .ge 40, 3) := by decide +kernel
theorem dX9_canBeLaid_106 : decode cX9_canBeLaid 106 = .ok (.iload_n 1, 1) := by decide +kernel
theorem dX9_canBeLaid_107 : decode cX9_canBeLaid 107 = .ok (.ifCond .eq 28, 3) := by decide +kernel
theorem dX9_canBeLaid_110 : decode cX9_canBeLaid 110 = .ok (.aload_n 0, 1) := by decide +kernel
theorem dX9_canBeLaid_111 : decode cX9_canBeLaid 111 = .ok (.getfield 47, 3) := by decide +kernel
theorem dX9_canBeLaid_114 : decode cX9_canBeLaid 114 = .ok (.bipush 6, 2) := by decide +kernel
theorem dX9_canBeLaid_116 : decode cX9_canBeLaid 116 = .ok (.iload_n 2, 1) := by decide +kernel
theorem dX9_canBeLaid_117 : decode cX9_canBeLaid 117 = .ok (.iadd, 1) := by decide +kernel
theorem dX9_canBeLaid_118 : decode cX9_canBeLaid 118 = .ok (.iaload, 1) := by decide +kernel
theorem dX9_canBeLaid_119 : decode cX9_canBeLaid 119 = .ok (.aload_n 0, 1) := by decide +kernel
theorem dX9_canBeLaid_120 : decode cX9_canBeLaid 120 = .ok (.getfield 47, 3) := by decide +kernel
theorem dX9_canBeLaid_123 : decode cX9_canBeLaid 123 = .ok (.bipush 9, 2) := by decide +kernel
theorem dX9_canBeLaid_125 : decode cX9_canBeLaid 125 = .ok (.iload_n 3, 1) := by decide +kernel
theorem dX9_canBeLaid_126 : decode cX9_canBeLaid 126 = .ok (.iadd, 1) := by decide +kernel
theorem dX9_canBeLaid_127 : decode cX9_canBeLaid 127 = .ok (.iaload, 1) := by decide +kernel
theorem dX9_canBeLaid_128 : decode cX9_canBeLaid 128 = .ok (.if_icmp .eq 7, 3) := by decide +kernel
theorem dX9_canBeLaid_131 : decode cX9_canBeLaid 131 = .ok (.iconst 1, 1) := by decide +kernel
theorem dX9_canBeLaid_132 : decode cX9_canBeLaid 132 = .ok (.goto 4, 3) := by decide +kernel
theorem dX9_canBeLaid_135 : decode cX9_canBeLaid 135 = .ok (.iconst 0, 1) := by decide +kernel
theorem dX9_canBeLaid_136 : decode cX9_canBeLaid 136 = .ok (.istore_n 1, 1) := by decide +kernel
theorem dX9_canBeLaid_137 : decode cX9_canBeLaid 137 = .ok (.iinc 3 1, 3) := by decide +kernel
theorem dX9_canBeLaid_140 : decode cX9_canBeLaid 140 = .ok (.goto (-39), 3) := by decide +kernel
theorem dX9_canBeLaid_143 : decode cX9_canBeLaid 143 = .ok (.iinc 2 1, 3) := by decide +kernel
theorem dX9_canBeLaid_146 : decode cX9_canBeLaid 146 = .ok (.goto (-62), 3) := by decide +kernel
theorem dX9_canBeLaid_149 : decode cX9_canBeLaid 149 = .ok (.iload_n 1, 1) := by decide +kernel
theorem dX9_canBeLaid_150 : decode cX9_canBeLaid 150 = .ok (.ireturn, 1) := by decide +kernel
theorem dX9_lay_0 : decode cX9_lay 0 = .ok (.aload_n 0, 1) := by decide +kernel
theorem dX9_lay_1 : decode cX9_lay 1 = .ok (.invokevirtual 136, 3) := by decide +kernel
theorem dX9_lay_4 : decode cX9_lay 4 = .ok (.bipush (-4), 2) := by decide +kernel
theorem dX9_lay_6 : decode cX9_lay 6 = .ok (.if_icmp .ne 10, 3) := by decide +kernel
theorem dX9_lay_9 : decode cX9_lay 9 = .ok (.aload_n 0, 1) := by decide +kernel
theorem dX9_lay_10 : decode cX9_lay 10 = .ok (.invokevirtual 139, 3) := by decide +kernel
theorem dX9_lay_13 : decode cX9_lay 13 = .ok (.ifCond .ne 6, 3) := by decide +kernel
theorem dX9_lay_16 : decode cX9_lay 16 = .ok (.bipush (-2), 2) := by decide +kernel
theorem dX9_lay_18 : decode cX9_lay 18 = .ok (.ireturn, 1) := by decide +kernel
theorem dX9_lay_19 : decode cX9_lay 19 = .ok (.aload_n 0, 1) := by decide +kernel
theorem dX9_lay_20 : decode cX9_lay 20 = .ok (.getfield 13, 3) := by decide +kernel
theorem dX9_lay_23 : decode cX9_lay 23 = .ok (.iconst 0, 1) := by decide +kernel
theorem dX9_lay_24 : decode cX9_lay 24 = .ok (.aload_n 0, 1) := by decide +kernel
theorem dX9_lay_25 : decode cX9_lay 25 = .ok (.getfield 13, 3) := by decide +kernel
theorem dX9_lay_28 : decode cX9_lay 28 = .ok (.iconst 1, 1) := by decide +kernel
theorem dX9_lay_29 : decode cX9_lay 29 = .ok (.iaload, 1) := by decide +kernel
theorem dX9_lay_30 : decode cX9_lay 30 = .ok (.iastore, 1) := by decide +kernel
theorem dX9_lay_31 : decode cX9_lay 31 = .ok (.aload_n 0, 1) := by decide +kernel
theorem dX9_lay_32 : decode cX9_lay 32 = .ok (.getfield 29, 3) := by decide +kernel
theorem dX9_lay_35 : decode cX9_lay 35 = .ok (.iconst 0, 1) := by decide +kernel
theorem dX9_lay_36 : decode cX9_lay 36 = .ok (.aload_n 0, 1) := by decide +kernel
theorem dX9_lay_37 : decode cX9_lay 37 = .ok (.getfield 29, 3) := by decide +kernel
theorem dX9_lay_40 : decode cX9_lay 40 = .ok (.iconst 1, 1) := by decide +kernel
theorem dX9_lay_41 : decode cX9_lay 41 = .ok (.iaload, 1) := by decide +kernel
theorem dX9_lay_42 : decode cX9_lay 42 = .ok (.iastore, 1) := by decide +kernel
theorem dX9_lay_43 : decode cX9_lay 43 = .ok (.aload_n 0, 1) := by decide +kernel
theorem dX9_lay_44 : decode cX9_lay 44 = .ok (.getfield 32, 3) := by decide +kernel
theorem dX9_lay_47 : decode cX9_lay 47 = .ok (.iconst 0, 1) := by decide +kernel
theorem dX9_lay_48 : decode cX9_lay 48 = .ok (.aload_n 0, 1) := by decide +kernel
theorem dX9_lay_49 : decode cX9_lay 49 = .ok (.getfield 32, 3) := by decide +kernel
theorem dX9_lay_52 : decode cX9_lay 52 = .ok (.iconst 1, 1) := by decide +kernel
theorem dX9_lay_53 : decode cX9_lay 53 = .ok (.iaload, 1) := by decide +kernel
theorem dX9_lay_54 : decode cX9_lay 54 = .ok (.iastore, 1) := by decide +kernel
theorem dX9_lay_55 : decode cX9_lay 55 = .ok (.aload_n 0, 1) := by decide +kernel
theorem dX9_lay_56 : decode cX9_lay 56 = .ok (.getfield 44, 3) := by decide +kernel
theorem dX9_lay_59 : decode cX9_lay 59 = .ok (.iconst 0, 1) := by decide +kernel
theorem dX9_lay_60 : decode cX9_lay 60 = .ok (.aload_n 0, 1) := by decide +kernel
theorem dX9_lay_61 : decode cX9_lay 61 = .ok (.getfield 44, 3) := by decide +kernel
theorem dX9_lay_64 : decode cX9_lay 64 = .ok (.iconst 1, 1) := by decide +kernel
theorem dX9_lay_65 : decode cX9_lay 65 = .ok (.iaload, 1) := by decide +kernel
theorem dX9_lay_66 : decode cX9_lay 66 = .ok (.iastore, 1) := by decide +kernel
theorem dX9_lay_67 : decode cX9_lay 67 = .ok (.aload_n 0, 1) := by decide +kernel
theorem dX9_lay_68 : decode cX9_lay 68 = .ok (.getfield 53, 3) := by decide +kernel
theorem dX9_lay_71 : decode cX9_lay 71 = .ok (.iconst 0, 1) := by decide +kernel
theorem dX9_lay_72 : decode cX9_lay 72 = .ok (.aload_n 0, 1) := by decide +kernel
theorem dX9_lay_73 : decode cX9_lay 73 = .ok (.getfield 53, 3) := by decide +kernel
theorem dX9_lay_76 : decode cX9_lay 76 = .ok (.iconst 1, 1) := by decide +kernel
theorem dX9_lay_77 : decode cX9_lay 77 = .ok (.iaload, 1) := by decide +kernel
theorem dX9_lay_78 : decode cX9_lay 78 = .ok (.iastore, 1) := by decide +kernel
theorem dX9_lay_79 : decode cX9_lay 79 = .ok (.iconst 0, 1) := by decide +kernel
theorem dX9_lay_80 : decode cX9_lay 80 = .ok (.istore_n 1, 1) := by decide +kernel
theorem dX9_lay_81 : decode cX9_lay 81 = .ok (.iload_n 1, 1) := by decide +kernel
theorem dX9_lay_82 : decode cX9_lay 82 = .ok (.bipush 8, 2) := by decide +kernel
theorem dX9_lay_84 : decode cX9_lay 84 = .ok (.if_icmp .ge 110, 3) := by decide +kernel
theorem dX9_lay_87 : decode cX9_lay 87 = .ok (.aload_n 0, 1) := by decide +kernel
theorem dX9_lay_88 : decode cX9_lay 88 = .ok (.iload_n 1, 1) := by decide +kernel
theorem dX9_lay_89 : decode cX9_lay 89 = .ok (.aload_n 0, 1) := by decide +kernel
theorem dX9_lay_90 : decode cX9_lay 90 = .ok (.getfield 17, 3) := by decide +kernel
theorem dX9_lay_93 : decode cX9_lay 93 = .ok (.bipush 8, 2) := by decide +kernel
theorem dX9_lay_95 : decode cX9_lay 95 = .ok (.iload_n 1, 1) := by decide +kernel
theorem dX9_lay_96 : decode cX9_lay 96 = .ok (.iadd, 1) := by decide +kernel
theorem dX9_lay_97 : decode cX9_lay 97 = .ok (.iaload, 1) := by decide +kernel
theorem dX9_lay_98 : decode cX9_lay 98 = .ok (.aload_n 0, 1) := by decide +kernel
theorem dX9_lay_99 : decode cX9_lay 99 = .ok (.getfield 20, 3) := by decide +kernel
theorem dX9_lay_102 : decode cX9_lay 102 = .ok (.bipush 8, 2) := by decide +kernel
theorem dX9_lay_104 : decode cX9_lay 104 = .ok (.iload_n 1, 1) := by decide +kernel
theorem dX9_lay_105 : decode cX9_lay 105 = .ok (.iadd, 1) := by decide +kernel
theorem dX9_lay_106 : decode cX9_lay 106 = .ok (.iaload, 1) := by decide +kernel
theorem dX9_lay_107 : decode cX9_lay 107 = .ok (.aload_n 0, 1) := by decide +kernel
theorem dX9_lay_108 : decode cX9_lay 108 = .ok (.getfield 23, 3) := by decide +kernel
theorem dX9_lay_111 : decode cX9_lay 111 = .ok (.bipush 8, 2) := by decide +kernel
theorem dX9_lay_113 : decode cX9_lay 113 = .ok (.iload_n 1, 1) := by decide +kernel
theorem dX9_lay_114 : decode cX9_lay 114 = .ok (.iadd, 1) := by decide +kernel
theorem dX9_lay_115 : decode cX9_lay 115 = .ok (.iaload, 1) := by decide +kernel
theorem dX9_lay_116 : decode cX9_lay 116 = .ok (.aload_n 0, 1) := by decide +kernel
theorem dX9_lay_117 : decode cX9_lay 117 = .ok (.getfield 26, 3) := by decide +kernel
theorem dX9_lay_120 : decode cX9_lay 120 = .ok (.bipush 8, 2) := by decide +kernel
theorem dX9_lay_122 : decode cX9_lay 122 = .ok (.iload_n 1, 1) := by decide +kernel
theorem dX9_lay_123 : decode cX9_lay 123 = .ok (.iadd, 1) := by decide +kernel
theorem dX9_lay_124 : decode cX9_lay 124 = .ok (.iaload, 1) := by decide +kernel
theorem dX9_lay_125 : decode cX9_lay 125 = .ok (.invokevirtual 86, 3) := by decide +kernel
theorem dX9_lay_128 : decode cX9_lay 128 = .ok (.aload_n 0, 1) := by decide +kernel
theorem dX9_lay_129 : decode cX9_lay 129 = .ok (.getfield 41, 3) := by decide +kernel
theorem dX9_lay_132 : decode cX9_lay 132 = .ok (.iload_n 1, 1) := by decide +kernel
theorem dX9_lay_133 : decode cX9_lay 133 = .ok (.aload_n 0, 1) := by decide +kernel
theorem dX9_lay_134 : decode cX9_lay 134 = .ok (.getfield 41, 3) := by decide +kernel
theorem dX9_lay_137 : decode cX9_lay 137 = .ok (.bipush 8, 2) := by decide +kernel
theorem dX9_lay_139 : decode cX9_lay 139 = .ok (.iload_n 1, 1) := by decide +kernel
theorem dX9_lay_140 : decode cX9_lay 140 = .ok (.iadd, 1) := by decide +kernel
theorem dX9_lay_141 : decode cX9_lay 141 = .ok (.iaload, 1) := by decide +kernel
theorem dX9_lay_142 : decode cX9_lay 142 = .ok (.iastore, 1) := by decide +kernel
theorem dX9_lay_143 : decode cX9_lay 143 = .ok (.aload_n 0, 1) := by decide +kernel
theorem dX9_lay_144 : decode cX9_lay 144 = .ok (.getfield 50, 3) := by decide +kernel
theorem dX9_lay_147 : decode cX9_lay 147 = .ok (.iload_n 1, 1) := by decide +kernel
theorem dX9_lay_148 : decode cX9_lay 148 = .ok (.aload_n 0, 1) := by decide +kernel
theorem dX9_lay_149 : decode cX9_lay 149 = .ok (.getfield 50, 3) := by decide +kernel
theorem dX9_lay_152 : decode cX9_lay 152 = .ok (.bipush 8, 2) := by decide +kernel
theorem dX9_lay_154 : decode cX9_lay 154 = .ok (.iload_n 1, 1) := by decide +kernel
theorem dX9_lay_155 : decode cX9_lay 155 = .ok (.iadd, 1) := by decide +kernel
theorem dX9_lay_156 : decode cX9_lay 156 = .ok (.iaload, 1) := by decide +kernel
theorem dX9_lay_157 : decode cX9_lay 157 = .ok (.iastore, 1) := by decide +kernel
theorem dX9_lay_158 : decode cX9_lay 158 = .ok (.aload_n 0, 1) := by decide +kernel
theorem dX9_lay_159 : decode cX9_lay 159 = .ok (.getfield 56, 3) := by decide +kernel
theorem dX9_lay_162 : decode cX9_lay 162 = .ok (.iload_n 1, 1) := by decide +kernel
theorem dX9_lay_163 : decode cX9_lay 163 = .ok (.aload_n 0, 1) := by decide +kernel
theorem dX9_lay_164 : decode cX9_lay 164 = .ok (.getfield 56, 3) := by decide +kernel
theorem dX9_lay_167 : decode cX9_lay 167 = .ok (.bipush 8, 2) := by decide +kernel
theorem dX9_lay_169 : decode cX9_lay 169 = .ok (.iload_n 1, 1) := by decide +kernel
theorem dX9_lay_170 : decode cX9_lay 170 = .ok (.iadd, 1) := by decide +kernel
theorem dX9_lay_171 : decode cX9_lay 171 = .ok (.iaload, 1) := by decide +kernel
theorem dX9_lay_172 : decode cX9_lay 172 = .ok (.iastore, 1) := by decide +kernel
theorem dX9_lay_173 : decode cX9_lay 173 = .ok (.aload_n 0, 1) := by decide +kernel
theorem dX9_lay_174 : decode cX9_lay 174 = .ok (.getfield 59, 3) := by decide +kernel
theorem dX9_lay_177 : decode cX9_lay 177 = .ok (.iload_n 1, 1) := by decide +kernel
theorem dX9_lay_178 : decode cX9_lay 178 = .ok (.aload_n 0, 1) := by decide +kernel
theorem dX9_lay_179 : decode cX9_lay 179 = .ok (.getfield 59, 3) := by decide +kernel
theorem dX9_lay_182 : decode cX9_lay 182 = .ok (.bipush 8, 2) := by decide +kernel
theorem dX9_lay_184 : decode cX9_lay 184 = .ok (.iload_n 1, 1) := by decide +kernel
theorem dX9_lay_185 : decode cX9_lay 185 = .ok (.iadd, 1) := by decide +kernel
theorem dX9_lay_186 : decode cX9_lay 186 = .ok (.iaload, 1) := by decide +kernel
theorem dX9_lay_187 : decode cX9_lay 187 = .ok (.iastore, 1) := by decide +kernel
theorem dX9_lay_188 : decode cX9_lay 188 = .ok (.iinc 1 1, 3) := by decide +kernel
theorem dX9_lay_191 : decode cX9_lay 191 = .ok (.goto (-110), 3) := by decide +kernel
theorem dX9_lay_194 : decode cX9_lay 194 = .ok (.iconst 0, 1) := by decide +kernel
theorem dX9_lay_195 : decode cX9_lay 195 = .ok (.istore_n 1, 1) := by decide +kernel
theorem dX9_lay_196 : decode cX9_lay 196 = .ok (.iload_n 1, 1) := by decide +kernel
theorem dX9_lay_197 : decode cX9_lay 197 = .ok (.iconst 4, 1) := by decide +kernel
theorem dX9_lay_198 : decode cX9_lay 198 = .ok (.if_icmp .ge 37, 3) := by decide +kernel
theorem dX9_lay_201 : decode cX9_lay 201 = .ok (.aload_n 0, 1) := by decide +kernel
theorem dX9_lay_202 : decode cX9_lay 202 = .ok (.getfield 35, 3) := by decide +kernel
theorem dX9_lay_205 : decode cX9_lay 205 = .ok (.iload_n 1, 1) := by decide +kernel
theorem dX9_lay_206 : decode cX9_lay 206 = .ok (.aload_n 0, 1) := by decide +kernel
theorem dX9_lay_207 : decode cX9_lay 207 = .ok (.getfield 35, 3) := by decide +kernel
theorem dX9_lay_210 : decode cX9_lay 210 = .ok (.iconst 4, 1) := by decide +kernel
theorem dX9_lay_211 : decode cX9_lay 211 = .ok (.iload_n 1, 1) := by decide +kernel
theorem dX9_lay_212 : decode cX9_lay 212 = .ok (.iadd, 1) := by decide +kernel
theorem dX9_lay_213 : decode cX9_lay 213 = .ok (.iaload, 1) := by decide +kernel
theorem dX9_lay_214 : decode cX9_lay 214 = .ok (.iastore, 1) := by decide +kernel
theorem dX9_lay_215 : decode cX9_lay 215 = .ok (.aload_n 0, 1) := by decide +kernel
theorem dX9_lay_216 : decode cX9_lay 216 = .ok (.getfield 38, 3) := by decide +kernel
theorem dX9_lay_219 : decode cX9_lay 219 = .ok (.iload_n 1, 1) := by decide +kernel
theorem dX9_lay_220 : decode cX9_lay 220 = .ok (.aload_n 0, 1) := by decide +kernel
theorem dX9_lay_221 : decode cX9_lay 221 = .ok (.getfield 38, 3) := by decide +kernel
theorem dX9_lay_224 : decode cX9_lay 224 = .ok (.iconst 4, 1) := by decide +kernel
theorem dX9_lay_225 : decode cX9_lay 225 = .ok (.iload_n 1, 1) := by decide +kernel
theorem dX9_lay_226 : decode cX9_lay 226 = .ok (.iadd, 1) := by decide +kernel
theorem dX9_lay_227 : decode cX9_lay 227 = .ok (.iaload, 1) := by decide +kernel
theorem dX9_lay_228 : decode cX9_lay 228 = .ok (.iastore, 1) := by decide +kernel
theorem dX9_lay_229 : decode cX9_lay 229 = .ok (.iinc 1 1, 3) := by decide +kernel
theorem dX9_lay_232 : decode cX9_lay 232 = .ok (.goto (-36), 3) := by decide +kernel
theorem dX9_lay_235 : decode cX9_lay 235 = .ok (.iconst 0, 1) := by decide +kernel
theorem dX9_lay_236 : decode cX9_lay 236 = .ok (.istore_n 1, 1) := by decide +kernel
theorem dX9_lay_237 : decode cX9_lay 237 = .ok (.iload_n 1, 1) := by decide +kernel
theorem dX9_lay_238 : decode cX9_lay 238 = .ok (.bipush 6, 2) := by decide +kernel
theorem dX9_lay_240 : decode cX9_lay 240 = .ok (.if_icmp .ge 24, 3) := by decide +kernel
theorem dX9_lay_243 : decode cX9_lay 243 = .ok (.aload_n 0, 1) := by decide +kernel
theorem dX9_lay_244 : decode cX9_lay 244 = .ok (.getfield 47, 3) := by decide +kernel
theorem dX9_lay_247 : decode cX9_lay 247 = .ok (.iload_n 1, 1) := by decide +kernel
theorem dX9_lay_248 : decode cX9_lay 248 = .ok (.aload_n 0, 1) := by decide +kernel
theorem dX9_lay_249 : decode cX9_lay 249 = .ok (.getfield 47, 3) := by decide +kernel
theorem dX9_lay_252 : decode cX9_lay 252 = .ok (.bipush 6, 2) := by decide +kernel
theorem dX9_lay_254 : decode cX9_lay 254 = .ok (.iload_n 1, 1) := by decide +kernel
theorem dX9_lay_255 : decode cX9_lay 255 = .ok (.iadd, 1) := by decide +kernel
theorem dX9_lay_256 : decode cX9_lay 256 = .ok (.iaload, 1) := by decide +kernel
theorem dX9_lay_257 : decode cX9_lay 257 = .ok (.iastore, 1) := by decide +kernel
theorem dX9_lay_258 : decode cX9_lay 258 = .ok (.iinc 1 1, 3) := by decide +kernel
theorem dX9_lay_261 : decode cX9_lay 261 = .ok (.goto (-24), 3) := by decide +kernel
theorem dX9_lay_264 : decode cX9_lay 264 = .ok (.aload_n 0, 1) := by decide +kernel
theorem dX9_lay_265 : decode cX9_lay 265 = .ok (.invokevirtual 90, 3) := by decide +kernel
theorem dX9_lay_268 : decode cX9_lay 268 = .ok (.aload_n 0, 1) := by decide +kernel
theorem dX9_lay_269 : decode cX9_lay 269 = .ok (.getfield 13, 3) := by decide +kernel
theorem dX9_lay_272 : decode cX9_lay 272 = .ok (.iconst 0, 1) := by decide +kernel
theorem dX9_lay_273 : decode cX9_lay 273 = .ok (.iaload, 1) := by decide +kernel
theorem dX9_lay_274 : decode cX9_lay 274 = .ok (.ireturn, 1) := by decide +kernel
theorem dX9_anew_0 : decode cX9_anew 0 = .ok (.iconst 0, 1) := by decide +kernel
theorem dX9_anew_1 : decode cX9_anew 1 = .ok (.istore_n 1, 1) := by decide +kernel
theorem dX9_anew_2 : decode cX9_anew 2 = .ok (.iload_n 1, 1) := by decide +kernel
theorem dX9_anew_3 : decode cX9_anew 3 = .ok (.bipush 8, 2) := by decide +kernel
theorem dX9_anew_5 : decode cX9_anew 5 = .ok (.if_icmp .ge 53, 3) := by decide +kernel
theorem dX9_anew_8 : decode cX9_anew 8 = .ok (.aload_n 0, 1) := by decide +kernel
theorem dX9_anew_9 : decode cX9_anew 9 = .ok (.getfield 62, 3) := by decide +kernel
theorem dX9_anew_12 : decode cX9_anew 12 = .ok (.iconst 0, 1) := by decide +kernel
theorem dX9_anew_13 : decode cX9_anew 13 = .ok (.iload_n 1, 1) := by decide +kernel
theorem dX9_anew_14 : decode cX9_anew 14 = .ok (.iadd, 1) := by decide +kernel
theorem dX9_anew_15 : decode cX9_anew 15 = .ok (.aload_n 0, 1) := by decide +kernel
theorem dX9_anew_16 : decode cX9_anew 16 = .ok (.getfield 26, 3) := by decide +kernel
theorem dX9_anew_19 : decode cX9_anew 19 = .ok (.iload_n 1, 1) := by decide +kernel
theorem dX9_anew_20 : decode cX9_anew 20 = .ok (.iaload, 1) := by decide +kernel
theorem dX9_anew_21 : decode cX9_anew 21 = .ok (.iastore, 1) := by decide +kernel
theorem dX9_anew_22 : decode cX9_anew 22 = .ok (.aload_n 0, 1) := by decide +kernel
theorem dX9_anew_23 : decode cX9_anew 23 = .ok (.getfield 62, 3) := by decide +kernel
theorem dX9_anew_26 : decode cX9_anew 26 = .ok (.bipush 8, 2) := by decide +kernel
theorem dX9_anew_28 : decode cX9_anew 28 = .ok (.iload_n 1, 1) := by decide +kernel
theorem dX9_anew_29 : decode cX9_anew 29 = .ok (.iadd, 1) := by decide +kernel
theorem dX9_anew_30 : decode cX9_anew 30 = .ok (.iload_n 1, 1) := by decide +kernel
theorem dX9_anew_31 : decode cX9_anew 31 = .ok (.aload_n 0, 1) := by decide +kernel
theorem dX9_anew_32 : decode cX9_anew 32 = .ok (.getfield 13, 3) := by decide +kernel
theorem dX9_anew_35 : decode cX9_anew 35 = .ok (.iconst 0, 1) := by decide +kernel
theorem dX9_anew_36 : decode cX9_anew 36 = .ok (.iaload, 1) := by decide +kernel
theorem dX9_anew_37 : decode cX9_anew 37 = .ok (.if_icmp .ge 12, 3) := by decide +kernel
theorem dX9_anew_40 : decode cX9_anew 40 = .ok (.aload_n 0, 1) := by decide +kernel
theorem dX9_anew_41 : decode cX9_anew 41 = .ok (.getfield 41, 3) := by decide +kernel
theorem dX9_anew_44 : decode cX9_anew 44 = .ok (.iload_n 1, 1) := by decide +kernel
theorem dX9_anew_45 : decode cX9_anew 45 = .ok (.iaload, 1) := by decide +kernel
theorem dX9_anew_46 : decode cX9_anew 46 = .ok (.goto 5, 3) := by decide +kernel
theorem dX9_anew_49 : decode cX9_anew 49 = .ok (.bipush (-4), 2) := by decide +kernel
theorem dX9_anew_51 : decode cX9_anew 51 = .ok (.iastore, 1) := by decide +kernel
theorem dX9_anew_52 : decode cX9_anew 52 = .ok (.iinc 1 1, 3) := by decide +kernel
theorem dX9_anew_55 : decode cX9_anew 55 = .ok (.goto (-53), 3) := by decide +kernel
theorem dX9_anew_58 : decode cX9_anew 58 = .ok (.aload_n 0, 1) := by decide +kernel
theorem dX9_anew_59 : decode cX9_anew 59 = .ok (.iconst 0, 1) := by decide +kernel
theorem dX9_anew_60 : decode cX9_anew 60 = .ok (.putfield 143, 3) := by decide +kernel
theorem dX9_anew_63 : decode cX9_anew 63 = .ok (.aload_n 0, 1) := by decide +kernel
theorem dX9_anew_64 : decode cX9_anew 64 = .ok (.iconst 0, 1) := by decide +kernel
theorem dX9_anew_65 : decode cX9_anew 65 = .ok (.putfield 146, 3) := by decide +kernel
theorem dX9_anew_68 : decode cX9_anew 68 = .ok (.aload_n 0, 1) := by decide +kernel
theorem dX9_anew_69 : decode cX9_anew 69 = .ok (.iconst 0, 1) := by decide +kernel
theorem dX9_anew_70 : decode cX9_anew 70 = .ok (.putfield 149, 3) := by decide +kernel
theorem dX9_anew_73 : decode cX9_anew 73 = .ok (.return_, 1) := by decide +kernel
theorem dX9_copy_0 : decode cX9_copy 0 = .ok (.iconst 0, 1) := by decide +kernel
theorem dX9_copy_1 : decode cX9_copy 1 = .ok (.istore_n 3, 1) := by decide +kernel
theorem dX9_copy_2 : decode cX9_copy 2 = .ok (.iload_n 3, 1) := by decide +kernel
theorem dX9_copy_3 : decode cX9_copy 3 = .ok (.bipush 16, 2) := by decide +kernel
theorem dX9_copy_5 : decode cX9_copy 5 = .ok (.if_icmp .ge 25, 3) := by decide +kernel
theorem dX9_copy_8 : decode cX9_copy 8 = .ok (.aload_n 0, 1) := by decide +kernel
theorem dX9_copy_9 : decode cX9_copy 9 = .ok (.getfield 62, 3) := by decide +kernel
theorem dX9_copy_12 : decode cX9_copy 12 = .ok (.iload_n 2, 1) := by decide +kernel
theorem dX9_copy_13 : decode cX9_copy 13 = .ok (.iload_n 3, 1) := by decide +kernel
theorem dX9_copy_14 : decode cX9_copy 14 = .ok (.iadd, 1) := by decide +kernel
theorem dX9_copy_15 : decode cX9_copy 15 = .ok (.aload_n 0, 1) := by decide +kernel
theorem dX9_copy_16 : decode cX9_copy 16 = .ok (.getfield 62, 3) := by decide +kernel
theorem dX9_copy_19 : decode cX9_copy 19 = .ok (.iload_n 1, 1) := by decide +kernel
theorem dX9_copy_20 : decode cX9_copy 20 = .ok (.iload_n 3, 1) := by decide +kernel
theorem dX9_copy_21 : decode cX9_copy 21 = .ok (.iadd, 1) := by decide +kernel
theorem dX9_copy_22 : decode cX9_copy 22 = .ok (.iaload, 1) := by decide +kernel
theorem dX9_copy_23 : decode cX9_copy 23 = .ok (.iastore, 1) := by decide +kernel
theorem dX9_copy_24 : decode cX9_copy 24 = .ok (.iinc 3 1, 3) := by decide +kernel
theorem dX9_copy_27 : decode cX9_copy 27 = .ok (.goto (-25), 3) := by decide +kernel
theorem dX9_copy_30 : decode cX9_copy 30 = .ok (.return_, 1) := by decide +kernel
theorem dX9_isBeast_0 : decode cX9_isBeast 0 = .ok (.iload_n 1, 1) := by decide +kernel
theorem dX9_isBeast_1 : decode cX9_isBeast 1 = .ok (.iconst 0, 1) := by decide +kernel
theorem dX9_isBeast_2 : decode cX9_isBeast 2 = .ok (.aload_n 0, 1) := by decide +kernel
theorem dX9_isBeast_3 : decode cX9_isBeast 3 = .ok (.getfield 13, 3) := by decide +kernel
theorem dX9_isBeast_6 : decode cX9_isBeast 6 = .ok (.iconst 0, 1) := by decide +kernel
theorem dX9_isBeast_7 : decode cX9_isBeast 7 = .ok (.iaload, 1) := by decide +kernel
theorem dX9_isBeast_8 : decode cX9_isBeast 8 = .ok (.iconst 1, 1) := by decide +kernel
theorem dX9_isBeast_9 : decode cX9_isBeast 9 = .ok (.isub, 1) := by decide +kernel
theorem dX9_isBeast_10 : decode cX9_isBeast 10 = .ok (.invokestatic 93, 3) := by decide +kernel
theorem dX9_isBeast_13 : decode cX9_isBeast 13 = .ok (.ireturn, 1) := by decide +kernel
theorem dX9_ahead_0 : decode cX9_ahead 0 = .ok (.iconst 0, 1) := by decide +kernel
theorem dX9_ahead_1 : decode cX9_ahead 1 = .ok (.istore_n 2, 1) := by decide +kernel
theorem dX9_ahead_2 : decode cX9_ahead 2 = .ok (.iconst 0, 1) := by decide +kernel
theorem dX9_ahead_3 : decode cX9_ahead 3 = .ok (.istore_n 3, 1) := by decide +kernel
theorem dX9_ahead_4 : decode cX9_ahead 4 = .ok (.iload_n 3, 1) := by decide +kernel
theorem dX9_ahead_5 : decode cX9_ahead 5 = .ok (.aload_n 0, 1) := by decide +kernel
theorem dX9_ahead_6 : decode cX9_ahead 6 = .ok (.getfield 13, 3) := by decide +kernel
theorem dX9_ahead_9 : decode cX9_ahead 9 = .ok (.iconst 0, 1) := by decide +kernel
theorem dX9_ahead_10 : decode cX9_ahead 10 = .ok (.iaload, 1) := by decide +kernel
theorem dX9_ahead_11 : decode cX9_ahead 11 = .ok (.if_icmp .ge 89, 3) := by decide +kernel
theorem dX9_ahead_14 : decode cX9_ahead 14 = .ok (.aload_n 0, 1) := by decide +kernel
theorem dX9_ahead_15 : decode cX9_ahead 15 = .ok (.getfield 50, 3) := by decide +kernel
theorem dX9_ahead_18 : decode cX9_ahead 18 = .ok (.iload_n 1, 1) := by decide +kernel
theorem dX9_ahead_19 : decode cX9_ahead 19 = .ok (.iaload, 1) := by decide +kernel
theorem dX9_ahead_20 : decode cX9_ahead 20 = .ok (.ifCond .ne 25, 3) := by decide +kernel
theorem dX9_ahead_23 : decode cX9_ahead 23 = .ok (.aload_n 0, 1) := by decide +kernel
theorem dX9_ahead_24 : decode cX9_ahead 24 = .ok (.getfield 50, 3) := by decide +kernel
theorem dX9_ahead_27 : decode cX9_ahead 27 = .ok (.iload_n 3, 1) := by decide +kernel
theorem dX9_ahead_28 : decode cX9_ahead 28 = .ok (.iaload, 1) := by decide +kernel
theorem dX9_ahead_29 : decode cX9_ahead 29 = .ok (.ifCond .gt 8, 3) := by decide +kernel
theorem dX9_ahead_32 : decode cX9_ahead 32 = .ok (.iload_n 3, 1) := by decide +kernel
theorem dX9_ahead_33 : decode cX9_ahead 33 = .ok (.iload_n 1, 1) := by decide +kernel
theorem dX9_ahead_34 : decode cX9_ahead 34 = .ok (.if_icmp .ge 7, 3) := by decide +kernel
theorem dX9_ahead_37 : decode cX9_ahead 37 = .ok (.iconst 1, 1) := by decide +kernel
theorem dX9_ahead_38 : decode cX9_ahead 38 = .ok (.goto 36, 3) := by decide +kernel
theorem dX9_ahead_41 : decode cX9_ahead 41 = .ok (.iconst 0, 1) := by decide +kernel
theorem dX9_ahead_42 : decode cX9_ahead 42 = .ok (.goto 32, 3) := by decide +kernel
theorem dX9_ahead_45 : decode cX9_ahead 45 = .ok (.aload_n 0, 1) := by decide +kernel
theorem dX9_ahead_46 : decode cX9_ahead 46 = .ok (.getfield 50, 3) := by decide +kernel
theorem dX9_ahead_49 : decode cX9_ahead 49 = .ok (.iload_n 3, 1) := by decide +kernel
theorem dX9_ahead_50 : decode cX9_ahead 50 = .ok (.iaload, 1) := by decide +kernel
theorem dX9_ahead_51 : decode cX9_ahead 51 = .ok (.ifCond .le 22, 3) := by decide +kernel
theorem dX9_ahead_54 : decode cX9_ahead 54 = .ok (.aload_n 0, 1) := by decide +kernel
theorem dX9_ahead_55 : decode cX9_ahead 55 = .ok (.getfield 50, 3) := by decide +kernel
theorem dX9_ahead_58 : decode cX9_ahead 58 = .ok (.iload_n 3, 1) := by decide +kernel
theorem dX9_ahead_59 : decode cX9_ahead 59 = .ok (.iaload, 1) := by decide +kernel
theorem dX9_ahead_60 : decode cX9_ahead 60 = .ok (.aload_n 0, 1) := by decide +kernel
theorem dX9_ahead_61 : decode cX9_ahead 61 = .ok (.getfield 50, 3) := by decide +kernel
theorem dX9_ahead_64 : decode cX9_ahead 64 = .ok (.iload_n 1, 1) := by decide +kernel
theorem dX9_ahead_65 : decode cX9_ahead 65 = .ok (.iaload, 1) := by decide +kernel
theorem dX9_ahead_66 : decode cX9_ahead 66 = .ok (.if_icmp .ge 7, 3) := by decide +kernel
theorem dX9_ahead_69 : decode cX9_ahead 69 = .ok (.iconst 1, 1) := by decide +kernel
theorem dX9_ahead_70 : decode cX9_ahead 70 = .ok (.goto 4, 3) := by decide +kernel
theorem dX9_ahead_73 : decode cX9_ahead 73 = .ok (.iconst 0, 1) := by decide +kernel
theorem dX9_ahead_74 : decode cX9_ahead 74 = .ok (.istore 4, 2) := by decide +kernel
theorem dX9_ahead_76 : decode cX9_ahead 76 = .ok (.iload_n 2, 1) := by decide +kernel
theorem dX9_ahead_77 : decode cX9_ahead 77 = .ok (.iload_n 3, 1) := by decide +kernel
theorem dX9_ahead_78 : decode cX9_ahead 78 = .ok (.iload_n 1, 1) := by decide +kernel
theorem dX9_ahead_79 : decode cX9_ahead 79 = .ok (.if_icmp .eq 12, 3) := by decide +kernel
theorem dX9_ahead_82 : decode cX9_ahead 82 = .ok (.iload 4, 2) := by decide +kernel
theorem dX9_ahead_84 : decode cX9_ahead 84 = .ok (.ifCond .eq 7, 3) := by decide +kernel
theorem dX9_ahead_87 : decode cX9_ahead 87 = .ok (.iconst 1, 1) := by decide +kernel
theorem dX9_ahead_88 : decode cX9_ahead 88 = .ok (.goto 4, 3) := by decide +kernel
theorem dX9_ahead_91 : decode cX9_ahead 91 = .ok (.iconst 0, 1) := by decide +kernel
theorem dX9_ahead_92 : decode cX9_ahead 92 = .ok (.iadd, 1) := by decide +kernel
theorem dX9_ahead_93 : decode cX9_ahead 93 = .ok (.istore_n 2, 1) := by decide +kernel
theorem dX9_ahead_94 : decode cX9_ahead 94 = .ok (.iinc 3 1, 3) := by decide +kernel
theorem dX9_ahead_97 : decode cX9_ahead 97 = .ok (.goto (-93), 3) := by decide +kernel
theorem dX9_ahead_100 : decode cX9_ahead 100 = .ok (.iload_n 2, 1) := by decide +kernel
theorem dX9_ahead_101 : decode cX9_ahead 101 = .ok (.ireturn, 1) := by decide +kernel
theorem dX9_raftOf_0 : decode cX9_raftOf 0 = .ok (.iconst 0, 1) := by decide +kernel
theorem dX9_raftOf_1 : decode cX9_raftOf 1 = .ok (.istore_n 2, 1) := by decide +kernel
theorem dX9_raftOf_2 : decode cX9_raftOf 2 = .ok (.iload_n 2, 1) := by decide +kernel
theorem dX9_raftOf_3 : decode cX9_raftOf 3 = .ok (.iconst 3, 1) := by decide +kernel
theorem dX9_raftOf_4 : decode cX9_raftOf 4 = .ok (.aload_n 0, 1) := by decide +kernel
theorem dX9_raftOf_5 : decode cX9_raftOf 5 = .ok (.getfield 44, 3) := by decide +kernel
theorem dX9_raftOf_8 : decode cX9_raftOf 8 = .ok (.iconst 0, 1) := by decide +kernel
theorem dX9_raftOf_9 : decode cX9_raftOf 9 = .ok (.iaload, 1) := by decide +kernel
theorem dX9_raftOf_10 : decode cX9_raftOf 10 = .ok (.imul, 1) := by decide +kernel
theorem dX9_raftOf_11 : decode cX9_raftOf 11 = .ok (.if_icmp .ge 23, 3) := by decide +kernel
theorem dX9_raftOf_14 : decode cX9_raftOf 14 = .ok (.aload_n 0, 1) := by decide +kernel
theorem dX9_raftOf_15 : decode cX9_raftOf 15 = .ok (.getfield 47, 3) := by decide +kernel
theorem dX9_raftOf_18 : decode cX9_raftOf 18 = .ok (.iload_n 2, 1) := by decide +kernel
theorem dX9_raftOf_19 : decode cX9_raftOf 19 = .ok (.iaload, 1) := by decide +kernel
theorem dX9_raftOf_20 : decode cX9_raftOf 20 = .ok (.iload_n 1, 1) := by decide +kernel
theorem dX9_raftOf_21 : decode cX9_raftOf 21 = .ok (.if_icmp .ne 7, 3) := by decide +kernel
theorem dX9_raftOf_24 : decode cX9_raftOf 24 = .ok (.iload_n 2, 1) := by decide +kernel
theorem dX9_raftOf_25 : decode cX9_raftOf 25 = .ok (.iconst 3, 1) := by decide +kernel
theorem dX9_raftOf_26 : decode cX9_raftOf 26 = .ok (.idiv, 1) := by decide +kernel
theorem dX9_raftOf_27 : decode cX9_raftOf 27 = .ok (.ireturn, 1) := by decide +kernel
theorem dX9_raftOf_28 : decode cX9_raftOf 28 = .ok (.iinc 2 1, 3) := by decide +kernel
theorem dX9_raftOf_31 : decode cX9_raftOf 31 = .ok (.goto (-29), 3) := by decide +kernel
theorem dX9_raftOf_34 : decode cX9_raftOf 34 = .ok (.bipush (-4), 2) := by decide +kernel
theorem dX9_raftOf_36 : decode cX9_raftOf 36 = .ok (.ireturn, 1) := by decide +kernel
theorem dX9_beast_0 : decode cX9_beast 0 = .ok (.aload_n 0, 1) := by decide +kernel
theorem dX9_beast_1 : decode cX9_beast 1 = .ok (.iload_n 1, 1) := by decide +kernel
theorem dX9_beast_2 : decode cX9_beast 2 = .ok (.invokevirtual 152, 3) := by decide +kernel
theorem dX9_beast_5 : decode cX9_beast 5 = .ok (.ifCond .ne 5, 3) := by decide +kernel
theorem dX9_beast_8 : decode cX9_beast 8 = .ok (.iconst (-1), 1) := by decide +kernel
theorem dX9_beast_9 : decode cX9_beast 9 = .ok (.ireturn, 1) := by decide +kernel
theorem dX9_beast_10 : decode cX9_beast 10 = .ok (.iload_n 2, 1) := by decide +kernel
theorem dX9_beast_11 : decode cX9_beast 11 = .ok (.tableswitch 93 0 6 #[41, 48, 55, 62, 71, 81, 87], 41) := by decide +kernel
theorem dX9_beast_52 : decode cX9_beast 52 = .ok (.aload_n 0, 1) := by decide +kernel
theorem dX9_beast_53 : decode cX9_beast 53 = .ok (.getfield 17, 3) := by decide +kernel
theorem dX9_beast_56 : decode cX9_beast 56 = .ok (.iload_n 1, 1) := by decide +kernel
theorem dX9_beast_57 : decode cX9_beast 57 = .ok (.iaload, 1) := by decide +kernel
theorem dX9_beast_58 : decode cX9_beast 58 = .ok (.ireturn, 1) := by decide +kernel
theorem dX9_beast_59 : decode cX9_beast 59 = .ok (.aload_n 0, 1) := by decide +kernel
theorem dX9_beast_60 : decode cX9_beast 60 = .ok (.getfield 20, 3) := by decide +kernel
theorem dX9_beast_63 : decode cX9_beast 63 = .ok (.iload_n 1, 1) := by decide +kernel
theorem dX9_beast_64 : decode cX9_beast 64 = .ok (.iaload, 1) := by decide +kernel
theorem dX9_beast_65 : decode cX9_beast 65 = .ok (.ireturn, 1) := by decide +kernel
theorem dX9_beast_66 : decode cX9_beast 66 = .ok (.aload_n 0, 1) := by decide +kernel
theorem dX9_beast_67 : decode cX9_beast 67 = .ok (.getfield 23, 3) := by decide +kernel
theorem dX9_beast_70 : decode cX9_beast 70 = .ok (.iload_n 1, 1) := by decide +kernel
theorem dX9_beast_71 : decode cX9_beast 71 = .ok (.iaload, 1) := by decide +kernel
theorem dX9_beast_72 : decode cX9_beast 72 = .ok (.ireturn, 1) := by decide +kernel
theorem dX9_beast_73 : decode cX9_beast 73 = .ok (.aload_n 0, 1) := by decide +kernel
theorem dX9_beast_74 : decode cX9_beast 74 = .ok (.getfield 62, 3) := by decide +kernel
theorem dX9_beast_77 : decode cX9_beast 77 = .ok (.iconst 0, 1) := by decide +kernel
theorem dX9_beast_78 : decode cX9_beast 78 = .ok (.iload_n 1, 1) := by decide +kernel
theorem dX9_beast_79 : decode cX9_beast 79 = .ok (.iadd, 1) := by decide +kernel
theorem dX9_beast_80 : decode cX9_beast 80 = .ok (.iaload, 1) := by decide +kernel
theorem dX9_beast_81 : decode cX9_beast 81 = .ok (.ireturn, 1) := by decide +kernel
theorem dX9_beast_82 : decode cX9_beast 82 = .ok (.aload_n 0, 1) := by decide +kernel
theorem dX9_beast_83 : decode cX9_beast 83 = .ok (.getfield 62, 3) := by decide +kernel
theorem dX9_beast_86 : decode cX9_beast 86 = .ok (.bipush 8, 2) := by decide +kernel
theorem dX9_beast_88 : decode cX9_beast 88 = .ok (.iload_n 1, 1) := by decide +kernel
theorem dX9_beast_89 : decode cX9_beast 89 = .ok (.iadd, 1) := by decide +kernel
theorem dX9_beast_90 : decode cX9_beast 90 = .ok (.iaload, 1) := by decide +kernel
theorem dX9_beast_91 : decode cX9_beast 91 = .ok (.ireturn, 1) := by decide +kernel
theorem dX9_beast_92 : decode cX9_beast 92 = .ok (.aload_n 0, 1) := by decide +kernel
theorem dX9_beast_93 : decode cX9_beast 93 = .ok (.iload_n 1, 1) := by decide +kernel
theorem dX9_beast_94 : decode cX9_beast 94 = .ok (.invokevirtual 156, 3) := by decide +kernel
theorem dX9_beast_97 : decode cX9_beast 97 = .ok (.ireturn, 1) := by decide +kernel
theorem dX9_beast_98 : decode cX9_beast 98 = .ok (.aload_n 0, 1) := by decide +kernel
theorem dX9_beast_99 : decode cX9_beast 99 = .ok (.iload_n 1, 1) := by decide +kernel
theorem dX9_beast_100 : decode cX9_beast 100 = .ok (.invokevirtual 159, 3) := by decide +kernel
theorem dX9_beast_103 : decode cX9_beast 103 = .ok (.ireturn, 1) := by decide +kernel
theorem dX9_beast_104 : decode cX9_beast 104 = .ok (.iconst (-1), 1) := by decide +kernel
theorem dX9_beast_105 : decode cX9_beast 105 = .ok (.ireturn, 1) := by decide +kernel
theorem dX9_currentIn_0 : decode cX9_currentIn 0 = .ok (.iconst (-1), 1) := by decide +kernel
theorem dX9_currentIn_1 : decode cX9_currentIn 1 = .ok (.istore_n 2, 1) := by decide +kernel
theorem dX9_currentIn_2 : decode cX9_currentIn 2 = .ok (.iconst 0, 1) := by decide +kernel
theorem dX9_currentIn_3 : decode cX9_currentIn 3 = .ok (.istore_n 3, 1) := by decide +kernel
theorem dX9_currentIn_4 : decode cX9_currentIn 4 = .ok (.iconst 0, 1) := by decide +kernel
theorem dX9_currentIn_5 : decode cX9_currentIn 5 = .ok (.istore 4, 2) := by decide +kernel
theorem dX9_currentIn_7 : decode cX9_currentIn 7 = .ok (.iload 4, 2) := by decide +kernel
theorem dX9_currentIn_9 : decode cX9_currentIn 9 = .ok (.aload_n 0, 1) := by decide +kernel
theorem dX9_currentIn_10 : decode cX9_currentIn 10 = .ok (.getfield 32, 3) := by decide +kernel
theorem dX9_currentIn_13 : decode cX9_currentIn 13 = .ok (.iconst 0, 1) := by decide +kernel
theorem dX9_currentIn_14 : decode cX9_currentIn 14 = .ok (.iaload, 1) := by decide +kernel
theorem dX9_currentIn_15 : decode cX9_currentIn 15 = .ok (.if_icmp .ge 47, 3) := by decide +kernel
theorem dX9_currentIn_18 : decode cX9_currentIn 18 = .ok (.aload_n 0, 1) := by decide +kernel
theorem dX9_currentIn_19 : decode cX9_currentIn 19 = .ok (.getfield 35, 3) := by decide +kernel
theorem dX9_currentIn_22 : decode cX9_currentIn 22 = .ok (.iload 4, 2) := by decide +kernel
theorem dX9_currentIn_24 : decode cX9_currentIn 24 = .ok (.iaload, 1) := by decide +kernel
theorem dX9_currentIn_25 : decode cX9_currentIn 25 = .ok (.iload_n 1, 1) := by decide +kernel
theorem dX9_currentIn_26 : decode cX9_currentIn 26 = .ok (.if_icmp .gt 30, 3) := by decide +kernel
theorem dX9_currentIn_29 : decode cX9_currentIn 29 = .ok (.aload_n 0, 1) := by decide +kernel
theorem dX9_currentIn_30 : decode cX9_currentIn 30 = .ok (.getfield 35, 3) := by decide +kernel
theorem dX9_currentIn_33 : decode cX9_currentIn 33 = .ok (.iload 4, 2) := by decide +kernel
theorem dX9_currentIn_35 : decode cX9_currentIn 35 = .ok (.iaload, 1) := by decide +kernel
theorem dX9_currentIn_36 : decode cX9_currentIn 36 = .ok (.iload_n 2, 1) := by decide +kernel
theorem dX9_currentIn_37 : decode cX9_currentIn 37 = .ok (.if_icmp .lt 19, 3) := by decide +kernel
theorem dX9_currentIn_40 : decode cX9_currentIn 40 = .ok (.aload_n 0, 1) := by decide +kernel
theorem dX9_currentIn_41 : decode cX9_currentIn 41 = .ok (.getfield 35, 3) := by decide +kernel
theorem dX9_currentIn_44 : decode cX9_currentIn 44 = .ok (.iload 4, 2) := by decide +kernel
theorem dX9_currentIn_46 : decode cX9_currentIn 46 = .ok (.iaload, 1) := by decide +kernel
theorem dX9_currentIn_47 : decode cX9_currentIn 47 = .ok (.istore_n 2, 1) := by decide +kernel
theorem dX9_currentIn_48 : decode cX9_currentIn 48 = .ok (.aload_n 0, 1) := by decide +kernel
theorem dX9_currentIn_49 : decode cX9_currentIn 49 = .ok (.getfield 38, 3) := by decide +kernel
theorem dX9_currentIn_52 : decode cX9_currentIn 52 = .ok (.iload 4, 2) := by decide +kernel
theorem dX9_currentIn_54 : decode cX9_currentIn 54 = .ok (.iaload, 1) := by decide +kernel
theorem dX9_currentIn_55 : decode cX9_currentIn 55 = .ok (.istore_n 3, 1) := by decide +kernel
theorem dX9_currentIn_56 : decode cX9_currentIn 56 = .ok (.iinc 4 1, 3) := by decide +kernel
theorem dX9_currentIn_59 : decode cX9_currentIn 59 = .ok (.goto (-52), 3) := by decide +kernel
theorem dX9_currentIn_62 : decode cX9_currentIn 62 = .ok (.iload_n 3, 1) := by decide +kernel
theorem dX9_currentIn_63 : decode cX9_currentIn 63 = .ok (.ireturn, 1) := by decide +kernel
theorem dX9_current_0 : decode cX9_current 0 = .ok (.iload_n 1, 1) := by decide +kernel
theorem dX9_current_1 : decode cX9_current 1 = .ok (.iconst 1, 1) := by decide +kernel
theorem dX9_current_2 : decode cX9_current 2 = .ok (.sipush 200, 3) := by decide +kernel
theorem dX9_current_5 : decode cX9_current 5 = .ok (.invokestatic 93, 3) := by decide +kernel
theorem dX9_current_8 : decode cX9_current 8 = .ok (.ifCond .eq 11, 3) := by decide +kernel
theorem dX9_current_11 : decode cX9_current 11 = .ok (.aload_n 0, 1) := by decide +kernel
theorem dX9_current_12 : decode cX9_current 12 = .ok (.iload_n 1, 1) := by decide +kernel
theorem dX9_current_13 : decode cX9_current 13 = .ok (.invokevirtual 162, 3) := by decide +kernel
theorem dX9_current_16 : decode cX9_current 16 = .ok (.goto 4, 3) := by decide +kernel
theorem dX9_current_19 : decode cX9_current 19 = .ok (.iconst (-1), 1) := by decide +kernel
theorem dX9_current_20 : decode cX9_current 20 = .ok (.ireturn, 1) := by decide +kernel
theorem dX9_takesIn_0 : decode cX9_takesIn 0 = .ok (.aload_n 0, 1) := by decide +kernel
theorem dX9_takesIn_1 : decode cX9_takesIn 1 = .ok (.getfield 165, 3) := by decide +kernel
theorem dX9_takesIn_4 : decode cX9_takesIn 4 = .ok (.ifCond .ge 9, 3) := by decide +kernel
theorem dX9_takesIn_7 : decode cX9_takesIn 7 = .ok (.aload_n 0, 1) := by decide +kernel
theorem dX9_takesIn_8 : decode cX9_takesIn 8 = .ok (.iload_n 1, 1) := by decide +kernel
theorem dX9_takesIn_9 : decode cX9_takesIn 9 = .ok (.invokevirtual 162, 3) := by decide +kernel
theorem dX9_takesIn_12 : decode cX9_takesIn 12 = .ok (.ireturn, 1) := by decide +kernel
theorem dX9_takesIn_13 : decode cX9_takesIn 13 = .ok (.ldc2_w 168, 3) := by decide +kernel
theorem dX9_takesIn_16 : decode cX9_takesIn 16 = .ok (.aload_n 0, 1) := by decide +kernel
theorem dX9_takesIn_17 : decode cX9_takesIn 17 = .ok (.getfield 165, 3) := by decide +kernel
theorem dX9_takesIn_20 : decode cX9_takesIn 20 = .ok (.i2l, 1) := by decide +kernel
theorem dX9_takesIn_21 : decode cX9_takesIn 21 = .ok (.lmul, 1) := by decide +kernel
theorem dX9_takesIn_22 : decode cX9_takesIn 22 = .ok (.ldc2_w 170, 3) := by decide +kernel
theorem dX9_takesIn_25 : decode cX9_takesIn 25 = .ok (.iload_n 1, 1) := by decide +kernel
theorem dX9_takesIn_26 : decode cX9_takesIn 26 = .ok (.i2l, 1) := by decide +kernel
theorem dX9_takesIn_27 : decode cX9_takesIn 27 = .ok (.lmul, 1) := by decide +kernel
theorem dX9_takesIn_28 : decode cX9_takesIn 28 = .ok (.ladd, 1) := by decide +kernel
theorem dX9_takesIn_29 : decode cX9_takesIn 29 = .ok (.lconst 1, 1) := by decide +kernel
theorem dX9_takesIn_30 : decode cX9_takesIn 30 = .ok (.ladd, 1) := by decide +kernel
theorem dX9_takesIn_31 : decode cX9_takesIn 31 = .ok (.lstore_n 2, 1) := by decide +kernel
theorem dX9_takesIn_32 : decode cX9_takesIn 32 = .ok (.lload_n 2, 1) := by decide +kernel
theorem dX9_takesIn_33 : decode cX9_takesIn 33 = .ok (.lload_n 2, 1) := by decide +kernel
theorem dX9_takesIn_34 : decode cX9_takesIn 34 = .ok (.lmul, 1) := by decide +kernel
theorem dX9_takesIn_35 : decode cX9_takesIn 35 = .ok (.ldc2_w 172, 3) := by decide +kernel
theorem dX9_takesIn_38 : decode cX9_takesIn 38 = .ok (.lrem, 1) := by decide +kernel
theorem dX9_takesIn_39 : decode cX9_takesIn 39 = .ok (.ldc2_w 174, 3) := by decide +kernel
theorem dX9_takesIn_42 : decode cX9_takesIn 42 = .ok (.lrem, 1) := by decide +kernel
theorem dX9_takesIn_43 : decode cX9_takesIn 43 = .ok (.l2i, 1) := by decide +kernel
theorem dX9_takesIn_44 : decode cX9_takesIn 44 = .ok (.ireturn, 1) := by decide +kernel
theorem dX9_hasHelp_0 : decode cX9_hasHelp 0 = .ok (.iconst 0, 1) := by decide +kernel
theorem dX9_hasHelp_1 : decode cX9_hasHelp 1 = .ok (.istore_n 3, 1) := by decide +kernel
theorem dX9_hasHelp_2 : decode cX9_hasHelp 2 = .ok (.iconst 0, 1) := by decide +kernel
theorem dX9_hasHelp_3 : decode cX9_hasHelp 3 = .ok (.istore 4, 2) := by decide +kernel
theorem dX9_hasHelp_5 : decode cX9_hasHelp 5 = .ok (.iload 4, 2) := by decide +kernel
theorem dX9_hasHelp_7 : decode cX9_hasHelp 7 = .ok (.aload_n 0, 1) := by decide +kernel
theorem dX9_hasHelp_8 : decode cX9_hasHelp 8 = .ok (.getfield 13, 3) := by decide +kernel
theorem dX9_hasHelp_11 : decode cX9_hasHelp 11 = .ok (.iconst 0, 1) := by decide +kernel
theorem dX9_hasHelp_12 : decode cX9_hasHelp 12 = .ok (.iaload, 1) := by decide +kernel
theorem dX9_hasHelp_13 : decode cX9_hasHelp 13 = .ok (.if_icmp .ge 45, 3) := by decide +kernel
theorem dX9_hasHelp_16 : decode cX9_hasHelp 16 = .ok (.iload_n 3, 1) := by decide +kernel
theorem dX9_hasHelp_17 : decode cX9_hasHelp 17 = .ok (.ifCond .ne 29, 3) := by decide +kernel
theorem dX9_hasHelp_20 : decode cX9_hasHelp 20 = .ok (.aload_n 0, 1) := by decide +kernel
theorem dX9_hasHelp_21 : decode cX9_hasHelp 21 = .ok (.getfield 23, 3) := by decide +kernel
theorem dX9_hasHelp_24 : decode cX9_hasHelp 24 = .ok (.iload 4, 2) := by decide +kernel
theorem dX9_hasHelp_26 : decode cX9_hasHelp 26 = .ok (.iaload, 1) := by decide +kernel
theorem dX9_hasHelp_27 : decode cX9_hasHelp 27 = .ok (.iconst 2, 1) := by decide +kernel
theorem dX9_hasHelp_28 : decode cX9_hasHelp 28 = .ok (.if_icmp .ne 22, 3) := by decide +kernel
theorem dX9_hasHelp_31 : decode cX9_hasHelp 31 = .ok (.aload_n 0, 1) := by decide +kernel
theorem dX9_hasHelp_32 : decode cX9_hasHelp 32 = .ok (.getfield 62, 3) := by decide +kernel
theorem dX9_hasHelp_35 : decode cX9_hasHelp 35 = .ok (.iload_n 1, 1) := by decide +kernel
theorem dX9_hasHelp_36 : decode cX9_hasHelp 36 = .ok (.iconst 0, 1) := by decide +kernel
theorem dX9_hasHelp_37 : decode cX9_hasHelp 37 = .ok (.iadd, 1) := by decide +kernel
theorem dX9_hasHelp_38 : decode cX9_hasHelp 38 = .ok (.iload 4, 2) := by decide +kernel
theorem dX9_hasHelp_40 : decode cX9_hasHelp 40 = .ok (.iadd, 1) := by decide +kernel
theorem dX9_hasHelp_41 : decode cX9_hasHelp 41 = .ok (.iaload, 1) := by decide +kernel
theorem dX9_hasHelp_42 : decode cX9_hasHelp 42 = .ok (.iload_n 2, 1) := by decide +kernel
theorem dX9_hasHelp_43 : decode cX9_hasHelp 43 = .ok (.if_icmp .ge 7, 3) := by decide +kernel
theorem dX9_hasHelp_46 : decode cX9_hasHelp 46 = .ok (.iconst 1, 1) := by decide +kernel
theorem dX9_hasHelp_47 : decode cX9_hasHelp 47 = .ok (.goto 4, 3) := by decide +kernel
theorem dX9_hasHelp_50 : decode cX9_hasHelp 50 = .ok (.iconst 0, 1) := by decide +kernel
theorem dX9_hasHelp_51 : decode cX9_hasHelp 51 = .ok (.istore_n 3, 1) := by decide +kernel
theorem dX9_hasHelp_52 : decode cX9_hasHelp 52 = .ok (.iinc 4 1, 3) := by decide +kernel
theorem dX9_hasHelp_55 : decode cX9_hasHelp 55 = .ok (.goto (-50), 3) := by decide +kernel
theorem dX9_hasHelp_58 : decode cX9_hasHelp 58 = .ok (.iload_n 3, 1) := by decide +kernel
theorem dX9_hasHelp_59 : decode cX9_hasHelp 59 = .ok (.ifCond .eq 19, 3) := by decide +kernel
theorem dX9_hasHelp_62 : decode cX9_hasHelp 62 = .ok (.iload_n 2, 1) := by decide +kernel
theorem dX9_hasHelp_63 : decode cX9_hasHelp 63 = .ok (.iconst 1, 1) := by decide +kernel
theorem dX9_hasHelp_64 : decode cX9_hasHelp 64 = .ok (.if_icmp .le 14, 3) := by decide +kernel
theorem dX9_hasHelp_67 : decode cX9_hasHelp 67 = .ok (.iload_n 2, 1) := by decide +kernel
theorem dX9_hasHelp_68 : decode cX9_hasHelp 68 = .ok (.iconst 5, 1) := by decide +kernel
theorem dX9_hasHelp_69 : decode cX9_hasHelp 69 = .ok (.irem, 1) := by decide +kernel
theorem dX9_hasHelp_70 : decode cX9_hasHelp 70 = .ok (.iconst 1, 1) := by decide +kernel
theorem dX9_hasHelp_71 : decode cX9_hasHelp 71 = .ok (.if_icmp .ne 7, 3) := by decide +kernel
theorem dX9_hasHelp_74 : decode cX9_hasHelp 74 = .ok (.iconst 1, 1) := by decide +kernel
theorem dX9_hasHelp_75 : decode cX9_hasHelp 75 = .ok (.goto 4, 3) := by decide +kernel
theorem dX9_hasHelp_78 : decode cX9_hasHelp 78 = .ok (.iconst 0, 1) := by decide +kernel
theorem dX9_hasHelp_79 : decode cX9_hasHelp 79 = .ok (.ireturn, 1) := by decide +kernel
theorem dX9_strokeOf_0 : decode cX9_strokeOf 0 = .ok (.aload_n 0, 1) := by decide +kernel
theorem dX9_strokeOf_1 : decode cX9_strokeOf 1 = .ok (.getfield 62, 3) := by decide +kernel
theorem dX9_strokeOf_4 : decode cX9_strokeOf 4 = .ok (.iload_n 1, 1) := by decide +kernel
theorem dX9_strokeOf_5 : decode cX9_strokeOf 5 = .ok (.iconst 0, 1) := by decide +kernel
theorem dX9_strokeOf_6 : decode cX9_strokeOf 6 = .ok (.iadd, 1) := by decide +kernel
theorem dX9_strokeOf_7 : decode cX9_strokeOf 7 = .ok (.iload_n 2, 1) := by decide +kernel
theorem dX9_strokeOf_8 : decode cX9_strokeOf 8 = .ok (.iadd, 1) := by decide +kernel
theorem dX9_strokeOf_9 : decode cX9_strokeOf 9 = .ok (.iaload, 1) := by decide +kernel
theorem dX9_strokeOf_10 : decode cX9_strokeOf 10 = .ok (.istore 6, 2) := by decide +kernel
theorem dX9_strokeOf_12 : decode cX9_strokeOf 12 = .ok (.aload_n 0, 1) := by decide +kernel
theorem dX9_strokeOf_13 : decode cX9_strokeOf 13 = .ok (.getfield 23, 3) := by decide +kernel
theorem dX9_strokeOf_16 : decode cX9_strokeOf 16 = .ok (.iload_n 2, 1) := by decide +kernel
theorem dX9_strokeOf_17 : decode cX9_strokeOf 17 = .ok (.iaload, 1) := by decide +kernel
theorem dX9_strokeOf_18 : decode cX9_strokeOf 18 = .ok (.iconst 2, 1) := by decide +kernel
theorem dX9_strokeOf_19 : decode cX9_strokeOf 19 = .ok (.if_icmp .ne 9, 3) := by decide +kernel
theorem dX9_strokeOf_22 : decode cX9_strokeOf 22 = .ok (.iload_n 3, 1) := by decide +kernel
theorem dX9_strokeOf_23 : decode cX9_strokeOf 23 = .ok (.iconst 5, 1) := by decide +kernel
theorem dX9_strokeOf_24 : decode cX9_strokeOf 24 = .ok (.irem, 1) := by decide +kernel
theorem dX9_strokeOf_25 : decode cX9_strokeOf 25 = .ok (.ifCond .eq 21, 3) := by decide +kernel
theorem dX9_strokeOf_28 : decode cX9_strokeOf 28 = .ok (.aload_n 0, 1) := by decide +kernel
theorem dX9_strokeOf_29 : decode cX9_strokeOf 29 = .ok (.getfield 23, 3) := by decide +kernel
theorem dX9_strokeOf_32 : decode cX9_strokeOf 32 = .ok (.iload_n 2, 1) := by decide +kernel
theorem dX9_strokeOf_33 : decode cX9_strokeOf 33 = .ok (.iaload, 1) := by decide +kernel
theorem dX9_strokeOf_34 : decode cX9_strokeOf 34 = .ok (.iconst 3, 1) := by decide +kernel
theorem dX9_strokeOf_35 : decode cX9_strokeOf 35 = .ok (.if_icmp .ne 15, 3) := by decide +kernel
theorem dX9_strokeOf_38 : decode cX9_strokeOf 38 = .ok (.iload_n 3, 1) := by decide +kernel
theorem dX9_strokeOf_39 : decode cX9_strokeOf 39 = .ok (.iload 6, 2) := by decide +kernel
theorem dX9_strokeOf_41 : decode cX9_strokeOf 41 = .ok (.iconst 3, 1) := by decide +kernel
theorem dX9_strokeOf_42 : decode cX9_strokeOf 42 = .ok (.iadd, 1) := by decide +kernel
theorem dX9_strokeOf_43 : decode cX9_strokeOf 43 = .ok (.if_icmp .gt 7, 3) := by decide +kernel
theorem dX9_strokeOf_46 : decode cX9_strokeOf 46 = .ok (.iconst 1, 1) := by decide +kernel
theorem dX9_strokeOf_47 : decode cX9_strokeOf 47 = .ok (.goto 4, 3) := by decide +kernel
theorem dX9_strokeOf_50 : decode cX9_strokeOf 50 = .ok (.iconst 0, 1) := by decide +kernel
theorem dX9_strokeOf_51 : decode cX9_strokeOf 51 = .ok (.istore 7, 2) := by decide +kernel
theorem dX9_strokeOf_53 : decode cX9_strokeOf 53 = .ok (.iload 6, 2) := by decide +kernel
theorem dX9_strokeOf_55 : decode cX9_strokeOf 55 = .ok (.iload_n 3, 1) := by decide +kernel
theorem dX9_strokeOf_56 : decode cX9_strokeOf 56 = .ok (.if_icmp .ge 8, 3) := by decide +kernel
theorem dX9_strokeOf_59 : decode cX9_strokeOf 59 = .ok (.iload 7, 2) := by decide +kernel
theorem dX9_strokeOf_61 : decode cX9_strokeOf 61 = .ok (.ifCond .eq 5, 3) := by decide +kernel
theorem dX9_strokeOf_64 : decode cX9_strokeOf 64 = .ok (.iconst 0, 1) := by decide +kernel
theorem dX9_strokeOf_65 : decode cX9_strokeOf 65 = .ok (.ireturn, 1) := by decide +kernel
theorem dX9_strokeOf_66 : decode cX9_strokeOf 66 = .ok (.iconst 0, 1) := by decide +kernel
theorem dX9_strokeOf_67 : decode cX9_strokeOf 67 = .ok (.istore 8, 2) := by decide +kernel
theorem dX9_strokeOf_69 : decode cX9_strokeOf 69 = .ok (.iconst 0, 1) := by decide +kernel
theorem dX9_strokeOf_70 : decode cX9_strokeOf 70 = .ok (.istore 9, 2) := by decide +kernel
theorem dX9_strokeOf_72 : decode cX9_strokeOf 72 = .ok (.iload 9, 2) := by decide +kernel
theorem dX9_strokeOf_74 : decode cX9_strokeOf 74 = .ok (.aload_n 0, 1) := by decide +kernel
theorem dX9_strokeOf_75 : decode cX9_strokeOf 75 = .ok (.getfield 13, 3) := by decide +kernel
theorem dX9_strokeOf_78 : decode cX9_strokeOf 78 = .ok (.iconst 0, 1) := by decide +kernel
theorem dX9_strokeOf_79 : decode cX9_strokeOf 79 = .ok (.iaload, 1) := by decide +kernel
theorem dX9_strokeOf_80 : decode cX9_strokeOf 80 = .ok (.if_icmp .ge 41, 3) := by decide +kernel
theorem dX9_strokeOf_83 : decode cX9_strokeOf 83 = .ok (.iload 8, 2) := by decide +kernel
theorem dX9_strokeOf_85 : decode cX9_strokeOf 85 = .ok (.aload_n 0, 1) := by decide +kernel
theorem dX9_strokeOf_86 : decode cX9_strokeOf 86 = .ok (.getfield 62, 3) := by decide +kernel
theorem dX9_strokeOf_89 : decode cX9_strokeOf 89 = .ok (.iload_n 1, 1) := by decide +kernel
theorem dX9_strokeOf_90 : decode cX9_strokeOf 90 = .ok (.bipush 8, 2) := by decide +kernel
theorem dX9_strokeOf_92 : decode cX9_strokeOf 92 = .ok (.iadd, 1) := by decide +kernel
theorem dX9_strokeOf_93 : decode cX9_strokeOf 93 = .ok (.iload 9, 2) := by decide +kernel
theorem dX9_strokeOf_95 : decode cX9_strokeOf 95 = .ok (.iadd, 1) := by decide +kernel
theorem dX9_strokeOf_96 : decode cX9_strokeOf 96 = .ok (.iaload, 1) := by decide +kernel
theorem dX9_strokeOf_97 : decode cX9_strokeOf 97 = .ok (.iload_n 2, 1) := by decide +kernel
theorem dX9_strokeOf_98 : decode cX9_strokeOf 98 = .ok (.if_icmp .ne 13, 3) := by decide +kernel
theorem dX9_strokeOf_101 : decode cX9_strokeOf 101 = .ok (.aload_n 0, 1) := by decide +kernel
theorem dX9_strokeOf_102 : decode cX9_strokeOf 102 = .ok (.getfield 20, 3) := by decide +kernel
theorem dX9_strokeOf_105 : decode cX9_strokeOf 105 = .ok (.iload 9, 2) := by decide +kernel
theorem dX9_strokeOf_107 : decode cX9_strokeOf 107 = .ok (.iaload, 1) := by decide +kernel
theorem dX9_strokeOf_108 : decode cX9_strokeOf 108 = .ok (.goto 4, 3) := by decide +kernel
theorem dX9_strokeOf_111 : decode cX9_strokeOf 111 = .ok (.iconst 0, 1) := by decide +kernel
theorem dX9_strokeOf_112 : decode cX9_strokeOf 112 = .ok (.iadd, 1) := by decide +kernel
theorem dX9_strokeOf_113 : decode cX9_strokeOf 113 = .ok (.istore 8, 2) := by decide +kernel
theorem dX9_strokeOf_115 : decode cX9_strokeOf 115 = .ok (.iinc 9 1, 3) := by decide +kernel
theorem dX9_strokeOf_118 : decode cX9_strokeOf 118 = .ok (.goto (-46), 3) := by decide +kernel
theorem dX9_strokeOf_121 : decode cX9_strokeOf 121 = .ok (.iload 5, 2) := by decide +kernel
theorem dX9_strokeOf_123 : decode cX9_strokeOf 123 = .ok (.ifCond .eq 17, 3) := by decide +kernel
theorem dX9_strokeOf_126 : decode cX9_strokeOf 126 = .ok (.aload_n 0, 1) := by decide +kernel
theorem dX9_strokeOf_127 : decode cX9_strokeOf 127 = .ok (.getfield 23, 3) := by decide +kernel
theorem dX9_strokeOf_130 : decode cX9_strokeOf 130 = .ok (.iload_n 2, 1) := by decide +kernel
theorem dX9_strokeOf_131 : decode cX9_strokeOf 131 = .ok (.iaload, 1) := by decide +kernel
theorem dX9_strokeOf_132 : decode cX9_strokeOf 132 = .ok (.iconst 2, 1) := by decide +kernel
theorem dX9_strokeOf_133 : decode cX9_strokeOf 133 = .ok (.if_icmp .eq 7, 3) := by decide +kernel
theorem dX9_strokeOf_136 : decode cX9_strokeOf 136 = .ok (.iconst 0, 1) := by decide +kernel
theorem dX9_strokeOf_137 : decode cX9_strokeOf 137 = .ok (.goto 5, 3) := by decide +kernel
theorem dX9_strokeOf_140 : decode cX9_strokeOf 140 = .ok (.iload 4, 2) := by decide +kernel
theorem dX9_strokeOf_142 : decode cX9_strokeOf 142 = .ok (.istore 9, 2) := by decide +kernel
theorem dX9_strokeOf_144 : decode cX9_strokeOf 144 = .ok (.iload 9, 2) := by decide +kernel
theorem dX9_strokeOf_146 : decode cX9_strokeOf 146 = .ok (.aload_n 0, 1) := by decide +kernel
theorem dX9_strokeOf_147 : decode cX9_strokeOf 147 = .ok (.getfield 23, 3) := by decide +kernel
theorem dX9_strokeOf_150 : decode cX9_strokeOf 150 = .ok (.iload_n 2, 1) := by decide +kernel
theorem dX9_strokeOf_151 : decode cX9_strokeOf 151 = .ok (.iaload, 1) := by decide +kernel
theorem dX9_strokeOf_152 : decode cX9_strokeOf 152 = .ok (.iconst 1, 1) := by decide +kernel
theorem dX9_strokeOf_153 : decode cX9_strokeOf 153 = .ok (.if_icmp .ne 12, 3) := by decide +kernel
theorem dX9_strokeOf_156 : decode cX9_strokeOf 156 = .ok (.iload 9, 2) := by decide +kernel
theorem dX9_strokeOf_158 : decode cX9_strokeOf 158 = .ok (.ifCond .le 7, 3) := by decide +kernel
theorem dX9_strokeOf_161 : decode cX9_strokeOf 161 = .ok (.iconst 1, 1) := by decide +kernel
theorem dX9_strokeOf_162 : decode cX9_strokeOf 162 = .ok (.goto 4, 3) := by decide +kernel
theorem dX9_strokeOf_165 : decode cX9_strokeOf 165 = .ok (.iconst 0, 1) := by decide +kernel
theorem dX9_strokeOf_166 : decode cX9_strokeOf 166 = .ok (.isub, 1) := by decide +kernel
theorem dX9_strokeOf_167 : decode cX9_strokeOf 167 = .ok (.istore 9, 2) := by decide +kernel
theorem dX9_strokeOf_169 : decode cX9_strokeOf 169 = .ok (.aload_n 0, 1) := by decide +kernel
theorem dX9_strokeOf_170 : decode cX9_strokeOf 170 = .ok (.getfield 17, 3) := by decide +kernel
theorem dX9_strokeOf_173 : decode cX9_strokeOf 173 = .ok (.iload_n 2, 1) := by decide +kernel
theorem dX9_strokeOf_174 : decode cX9_strokeOf 174 = .ok (.iaload, 1) := by decide +kernel
theorem dX9_strokeOf_175 : decode cX9_strokeOf 175 = .ok (.iload 9, 2) := by decide +kernel
theorem dX9_strokeOf_177 : decode cX9_strokeOf 177 = .ok (.isub, 1) := by decide +kernel
theorem dX9_strokeOf_178 : decode cX9_strokeOf 178 = .ok (.iload 8, 2) := by decide +kernel
theorem dX9_strokeOf_180 : decode cX9_strokeOf 180 = .ok (.iconst 3, 1) := by decide +kernel
theorem dX9_strokeOf_181 : decode cX9_strokeOf 181 = .ok (.idiv, 1) := by decide +kernel
theorem dX9_strokeOf_182 : decode cX9_strokeOf 182 = .ok (.isub, 1) := by decide +kernel
theorem dX9_strokeOf_183 : decode cX9_strokeOf 183 = .ok (.istore 10, 2) := by decide +kernel
theorem dX9_strokeOf_185 : decode cX9_strokeOf 185 = .ok (.iload 10, 2) := by decide +kernel
theorem dX9_strokeOf_187 : decode cX9_strokeOf 187 = .ok (.iconst 1, 1) := by decide +kernel
theorem dX9_strokeOf_188 : decode cX9_strokeOf 188 = .ok (.if_icmp .ge 7, 3) := by decide +kernel
theorem dX9_strokeOf_191 : decode cX9_strokeOf 191 = .ok (.iconst 1, 1) := by decide +kernel
theorem dX9_strokeOf_192 : decode cX9_strokeOf 192 = .ok (.goto 5, 3) := by decide +kernel
theorem dX9_strokeOf_195 : decode cX9_strokeOf 195 = .ok (.iload 10, 2) := by decide +kernel
theorem dX9_strokeOf_197 : decode cX9_strokeOf 197 = .ok (.ireturn, 1) := by decide +kernel
theorem dX9_raftStroke_0 : decode cX9_raftStroke 0 = .ok (.iconst 0, 1) := by decide +kernel
theorem dX9_raftStroke_1 : decode cX9_raftStroke 1 = .ok (.istore 5, 2) := by decide +kernel
theorem dX9_raftStroke_3 : decode cX9_raftStroke 3 = .ok (.iconst 3, 1) := by decide +kernel
theorem dX9_raftStroke_4 : decode cX9_raftStroke 4 = .ok (.iload_n 2, 1) := by decide +kernel
theorem dX9_raftStroke_5 : decode cX9_raftStroke 5 = .ok (.imul, 1) := by decide +kernel
theorem dX9_raftStroke_6 : decode cX9_raftStroke 6 = .ok (.istore 6, 2) := by decide +kernel
theorem dX9_raftStroke_8 : decode cX9_raftStroke 8 = .ok (.iload 6, 2) := by decide +kernel
theorem dX9_raftStroke_10 : decode cX9_raftStroke 10 = .ok (.iconst 3, 1) := by decide +kernel
theorem dX9_raftStroke_11 : decode cX9_raftStroke 11 = .ok (.iload_n 2, 1) := by decide +kernel
theorem dX9_raftStroke_12 : decode cX9_raftStroke 12 = .ok (.imul, 1) := by decide +kernel
theorem dX9_raftStroke_13 : decode cX9_raftStroke 13 = .ok (.iconst 3, 1) := by decide +kernel
theorem dX9_raftStroke_14 : decode cX9_raftStroke 14 = .ok (.iadd, 1) := by decide +kernel
theorem dX9_raftStroke_15 : decode cX9_raftStroke 15 = .ok (.if_icmp .ge 48, 3) := by decide +kernel
theorem dX9_raftStroke_18 : decode cX9_raftStroke 18 = .ok (.aload_n 0, 1) := by decide +kernel
theorem dX9_raftStroke_19 : decode cX9_raftStroke 19 = .ok (.getfield 62, 3) := by decide +kernel
theorem dX9_raftStroke_22 : decode cX9_raftStroke 22 = .ok (.iload_n 1, 1) := by decide +kernel
theorem dX9_raftStroke_23 : decode cX9_raftStroke 23 = .ok (.iconst 0, 1) := by decide +kernel
theorem dX9_raftStroke_24 : decode cX9_raftStroke 24 = .ok (.iadd, 1) := by decide +kernel
theorem dX9_raftStroke_25 : decode cX9_raftStroke 25 = .ok (.aload_n 0, 1) := by decide +kernel
theorem dX9_raftStroke_26 : decode cX9_raftStroke 26 = .ok (.getfield 47, 3) := by decide +kernel
theorem dX9_raftStroke_29 : decode cX9_raftStroke 29 = .ok (.iload 6, 2) := by decide +kernel
theorem dX9_raftStroke_31 : decode cX9_raftStroke 31 = .ok (.iaload, 1) := by decide +kernel
theorem dX9_raftStroke_32 : decode cX9_raftStroke 32 = .ok (.iadd, 1) := by decide +kernel
theorem dX9_raftStroke_33 : decode cX9_raftStroke 33 = .ok (.iaload, 1) := by decide +kernel
theorem dX9_raftStroke_34 : decode cX9_raftStroke 34 = .ok (.iload_n 3, 1) := by decide +kernel
theorem dX9_raftStroke_35 : decode cX9_raftStroke 35 = .ok (.if_icmp .lt 5, 3) := by decide +kernel
theorem dX9_raftStroke_38 : decode cX9_raftStroke 38 = .ok (.iconst 0, 1) := by decide +kernel
theorem dX9_raftStroke_39 : decode cX9_raftStroke 39 = .ok (.ireturn, 1) := by decide +kernel
theorem dX9_raftStroke_40 : decode cX9_raftStroke 40 = .ok (.iload 5, 2) := by decide +kernel
theorem dX9_raftStroke_42 : decode cX9_raftStroke 42 = .ok (.aload_n 0, 1) := by decide +kernel
theorem dX9_raftStroke_43 : decode cX9_raftStroke 43 = .ok (.getfield 17, 3) := by decide +kernel
theorem dX9_raftStroke_46 : decode cX9_raftStroke 46 = .ok (.aload_n 0, 1) := by decide +kernel
theorem dX9_raftStroke_47 : decode cX9_raftStroke 47 = .ok (.getfield 47, 3) := by decide +kernel
theorem dX9_raftStroke_50 : decode cX9_raftStroke 50 = .ok (.iload 6, 2) := by decide +kernel
theorem dX9_raftStroke_52 : decode cX9_raftStroke 52 = .ok (.iaload, 1) := by decide +kernel
theorem dX9_raftStroke_53 : decode cX9_raftStroke 53 = .ok (.iaload, 1) := by decide +kernel
theorem dX9_raftStroke_54 : decode cX9_raftStroke 54 = .ok (.iadd, 1) := by decide +kernel
theorem dX9_raftStroke_55 : decode cX9_raftStroke 55 = .ok (.istore 5, 2) := by decide +kernel
theorem dX9_raftStroke_57 : decode cX9_raftStroke 57 = .ok (.iinc 6 1, 3) := by decide +kernel
theorem dX9_raftStroke_60 : decode cX9_raftStroke 60 = .ok (.goto (-52), 3) := by decide +kernel
theorem dX9_raftStroke_63 : decode cX9_raftStroke 63 = .ok (.iload 5, 2) := by decide +kernel
theorem dX9_raftStroke_65 : decode cX9_raftStroke 65 = .ok (.iconst 3, 1) := by decide +kernel
theorem dX9_raftStroke_66 : decode cX9_raftStroke 66 = .ok (.idiv, 1) := by decide +kernel
theorem dX9_raftStroke_67 : decode cX9_raftStroke 67 = .ok (.iload 4, 2) := by decide +kernel
theorem dX9_raftStroke_69 : decode cX9_raftStroke 69 = .ok (.isub, 1) := by decide +kernel
theorem dX9_raftStroke_70 : decode cX9_raftStroke 70 = .ok (.istore 6, 2) := by decide +kernel
theorem dX9_raftStroke_72 : decode cX9_raftStroke 72 = .ok (.iload 6, 2) := by decide +kernel
theorem dX9_raftStroke_74 : decode cX9_raftStroke 74 = .ok (.iconst 1, 1) := by decide +kernel
theorem dX9_raftStroke_75 : decode cX9_raftStroke 75 = .ok (.if_icmp .ge 7, 3) := by decide +kernel
theorem dX9_raftStroke_78 : decode cX9_raftStroke 78 = .ok (.iconst 1, 1) := by decide +kernel
theorem dX9_raftStroke_79 : decode cX9_raftStroke 79 = .ok (.goto 5, 3) := by decide +kernel
theorem dX9_raftStroke_82 : decode cX9_raftStroke 82 = .ok (.iload 6, 2) := by decide +kernel
theorem dX9_raftStroke_84 : decode cX9_raftStroke 84 = .ok (.ireturn, 1) := by decide +kernel
theorem dX9_cross_0 : decode cX9_cross 0 = .ok (.iconst 0, 1) := by decide +kernel
theorem dX9_cross_1 : decode cX9_cross 1 = .ok (.istore_n 3, 1) := by decide +kernel
theorem dX9_cross_2 : decode cX9_cross 2 = .ok (.iload_n 3, 1) := by decide +kernel
theorem dX9_cross_3 : decode cX9_cross 3 = .ok (.bipush 8, 2) := by decide +kernel
theorem dX9_cross_5 : decode cX9_cross 5 = .ok (.if_icmp .ge 25, 3) := by decide +kernel
theorem dX9_cross_8 : decode cX9_cross 8 = .ok (.aload_n 0, 1) := by decide +kernel
theorem dX9_cross_9 : decode cX9_cross 9 = .ok (.getfield 65, 3) := by decide +kernel
theorem dX9_cross_12 : decode cX9_cross 12 = .ok (.iload_n 3, 1) := by decide +kernel
theorem dX9_cross_13 : decode cX9_cross 13 = .ok (.iconst 0, 1) := by decide +kernel
theorem dX9_cross_14 : decode cX9_cross 14 = .ok (.iastore, 1) := by decide +kernel
theorem dX9_cross_15 : decode cX9_cross 15 = .ok (.aload_n 0, 1) := by decide +kernel
theorem dX9_cross_16 : decode cX9_cross 16 = .ok (.getfield 68, 3) := by decide +kernel
theorem dX9_cross_19 : decode cX9_cross 19 = .ok (.iload_n 3, 1) := by decide +kernel
theorem dX9_cross_20 : decode cX9_cross 20 = .ok (.sipush 999, 3) := by decide +kernel
theorem dX9_cross_23 : decode cX9_cross 23 = .ok (.iastore, 1) := by decide +kernel
theorem dX9_cross_24 : decode cX9_cross 24 = .ok (.iinc 3 1, 3) := by decide +kernel
theorem dX9_cross_27 : decode cX9_cross 27 = .ok (.goto (-25), 3) := by decide +kernel
theorem dX9_cross_30 : decode cX9_cross 30 = .ok (.iconst 1, 1) := by decide +kernel
theorem dX9_cross_31 : decode cX9_cross 31 = .ok (.istore_n 3, 1) := by decide +kernel
theorem dX9_cross_32 : decode cX9_cross 32 = .ok (.iload_n 3, 1) := by decide +kernel
theorem dX9_cross_33 : decode cX9_cross 33 = .ok (.iload_n 2, 1) := by decide +kernel
theorem dX9_cross_34 : decode cX9_cross 34 = .ok (.if_icmp .gt 183, 3) := by decide +kernel
theorem dX9_cross_37 : decode cX9_cross 37 = .ok (.aload_n 0, 1) := by decide +kernel
theorem dX9_cross_38 : decode cX9_cross 38 = .ok (.iload_n 3, 1) := by decide +kernel
theorem dX9_cross_39 : decode cX9_cross 39 = .ok (.invokevirtual 176, 3) := by decide +kernel
theorem dX9_cross_42 : decode cX9_cross 42 = .ok (.istore 4, 2) := by decide +kernel
theorem dX9_cross_44 : decode cX9_cross 44 = .ok (.aload_n 0, 1) := by decide +kernel
theorem dX9_cross_45 : decode cX9_cross 45 = .ok (.iload_n 1, 1) := by decide +kernel
theorem dX9_cross_46 : decode cX9_cross 46 = .ok (.iload_n 3, 1) := by decide +kernel
theorem dX9_cross_47 : decode cX9_cross 47 = .ok (.invokevirtual 179, 3) := by decide +kernel
theorem dX9_cross_50 : decode cX9_cross 50 = .ok (.istore 5, 2) := by decide +kernel
theorem dX9_cross_52 : decode cX9_cross 52 = .ok (.iload_n 3, 1) := by decide +kernel
theorem dX9_cross_53 : decode cX9_cross 53 = .ok (.iconst 5, 1) := by decide +kernel
theorem dX9_cross_54 : decode cX9_cross 54 = .ok (.if_icmp .gt 21, 3) := by decide +kernel
theorem dX9_cross_57 : decode cX9_cross 57 = .ok (.aload_n 0, 1) := by decide +kernel
theorem dX9_cross_58 : decode cX9_cross 58 = .ok (.getfield 182, 3) := by decide +kernel
theorem dX9_cross_61 : decode cX9_cross 61 = .ok (.iload_n 3, 1) := by decide +kernel
theorem dX9_cross_62 : decode cX9_cross 62 = .ok (.iconst 1, 1) := by decide +kernel
theorem dX9_cross_63 : decode cX9_cross 63 = .ok (.isub, 1) := by decide +kernel
theorem dX9_cross_64 : decode cX9_cross 64 = .ok (.ishr, 1) := by decide +kernel
theorem dX9_cross_65 : decode cX9_cross 65 = .ok (.iconst 1, 1) := by decide +kernel
theorem dX9_cross_66 : decode cX9_cross 66 = .ok (.iand, 1) := by decide +kernel
theorem dX9_cross_67 : decode cX9_cross 67 = .ok (.iconst 1, 1) := by decide +kernel
theorem dX9_cross_68 : decode cX9_cross 68 = .ok (.if_icmp .ne 7, 3) := by decide +kernel
theorem dX9_cross_71 : decode cX9_cross 71 = .ok (.iconst 1, 1) := by decide +kernel
theorem dX9_cross_72 : decode cX9_cross 72 = .ok (.goto 4, 3) := by decide +kernel
theorem dX9_cross_75 : decode cX9_cross 75 = .ok (.iconst 0, 1) := by decide +kernel
theorem dX9_cross_76 : decode cX9_cross 76 = .ok (.istore 6, 2) := by decide +kernel
theorem dX9_cross_78 : decode cX9_cross 78 = .ok (.iconst 0, 1) := by decide +kernel
theorem dX9_cross_79 : decode cX9_cross 79 = .ok (.istore 7, 2) := by decide +kernel
theorem dX9_cross_81 : decode cX9_cross 81 = .ok (.iload 7, 2) := by decide +kernel
theorem dX9_cross_83 : decode cX9_cross 83 = .ok (.aload_n 0, 1) := by decide +kernel
theorem dX9_cross_84 : decode cX9_cross 84 = .ok (.getfield 13, 3) := by decide +kernel
theorem dX9_cross_87 : decode cX9_cross 87 = .ok (.iconst 0, 1) := by decide +kernel
theorem dX9_cross_88 : decode cX9_cross 88 = .ok (.iaload, 1) := by decide +kernel
theorem dX9_cross_89 : decode cX9_cross 89 = .ok (.if_icmp .ge 122, 3) := by decide +kernel
theorem dX9_cross_92 : decode cX9_cross 92 = .ok (.iload 6, 2) := by decide +kernel
theorem dX9_cross_94 : decode cX9_cross 94 = .ok (.ifCond .ne 117, 3) := by decide +kernel
theorem dX9_cross_97 : decode cX9_cross 97 = .ok (.aload_n 0, 1) := by decide +kernel
theorem dX9_cross_98 : decode cX9_cross 98 = .ok (.iload 7, 2) := by decide +kernel
theorem dX9_cross_100 : decode cX9_cross 100 = .ok (.invokevirtual 156, 3) := by decide +kernel
theorem dX9_cross_103 : decode cX9_cross 103 = .ok (.istore 8, 2) := by decide +kernel
theorem dX9_cross_105 : decode cX9_cross 105 = .ok (.aload_n 0, 1) := by decide +kernel
theorem dX9_cross_106 : decode cX9_cross 106 = .ok (.getfield 62, 3) := by decide +kernel
theorem dX9_cross_109 : decode cX9_cross 109 = .ok (.iload_n 1, 1) := by decide +kernel
theorem dX9_cross_110 : decode cX9_cross 110 = .ok (.bipush 8, 2) := by decide +kernel
theorem dX9_cross_112 : decode cX9_cross 112 = .ok (.iadd, 1) := by decide +kernel
theorem dX9_cross_113 : decode cX9_cross 113 = .ok (.iload 7, 2) := by decide +kernel
theorem dX9_cross_115 : decode cX9_cross 115 = .ok (.iadd, 1) := by decide +kernel
theorem dX9_cross_116 : decode cX9_cross 116 = .ok (.iaload, 1) := by decide +kernel
theorem dX9_cross_117 : decode cX9_cross 117 = .ok (.bipush (-4), 2) := by decide +kernel
theorem dX9_cross_119 : decode cX9_cross 119 = .ok (.if_icmp .ne 86, 3) := by decide +kernel
theorem dX9_cross_122 : decode cX9_cross 122 = .ok (.aload_n 0, 1) := by decide +kernel
theorem dX9_cross_123 : decode cX9_cross 123 = .ok (.getfield 68, 3) := by decide +kernel
theorem dX9_cross_126 : decode cX9_cross 126 = .ok (.iload 7, 2) := by decide +kernel
theorem dX9_cross_128 : decode cX9_cross 128 = .ok (.iaload, 1) := by decide +kernel
theorem dX9_cross_129 : decode cX9_cross 129 = .ok (.sipush 999, 3) := by decide +kernel
theorem dX9_cross_132 : decode cX9_cross 132 = .ok (.if_icmp .ne 73, 3) := by decide +kernel
theorem dX9_cross_135 : decode cX9_cross 135 = .ok (.aload_n 0, 1) := by decide +kernel
theorem dX9_cross_136 : decode cX9_cross 136 = .ok (.getfield 65, 3) := by decide +kernel
theorem dX9_cross_139 : decode cX9_cross 139 = .ok (.iload 7, 2) := by decide +kernel
theorem dX9_cross_141 : decode cX9_cross 141 = .ok (.dup2, 1) := by decide +kernel
theorem dX9_cross_142 : decode cX9_cross 142 = .ok (.iaload, 1) := by decide +kernel
theorem dX9_cross_143 : decode cX9_cross 143 = .ok (.iload 8, 2) := by decide +kernel
theorem dX9_cross_145 : decode cX9_cross 145 = .ok (.bipush (-4), 2) := by decide +kernel
theorem dX9_cross_147 : decode cX9_cross 147 = .ok (.if_icmp .ne 18, 3) := by decide +kernel
theorem dX9_cross_150 : decode cX9_cross 150 = .ok (.aload_n 0, 1) := by decide +kernel
theorem dX9_cross_151 : decode cX9_cross 151 = .ok (.iload_n 1, 1) := by decide +kernel
theorem dX9_cross_152 : decode cX9_cross 152 = .ok (.iload 7, 2) := by decide +kernel
theorem dX9_cross_154 : decode cX9_cross 154 = .ok (.iload_n 3, 1) := by decide +kernel
theorem dX9_cross_155 : decode cX9_cross 155 = .ok (.iload 4, 2) := by decide +kernel
theorem dX9_cross_157 : decode cX9_cross 157 = .ok (.iload 5, 2) := by decide +kernel
theorem dX9_cross_159 : decode cX9_cross 159 = .ok (.invokevirtual 185, 3) := by decide +kernel
theorem dX9_cross_162 : decode cX9_cross 162 = .ok (.goto 13, 3) := by decide +kernel
theorem dX9_cross_165 : decode cX9_cross 165 = .ok (.aload_n 0, 1) := by decide +kernel
theorem dX9_cross_166 : decode cX9_cross 166 = .ok (.iload_n 1, 1) := by decide +kernel
theorem dX9_cross_167 : decode cX9_cross 167 = .ok (.iload 8, 2) := by decide +kernel
theorem dX9_cross_169 : decode cX9_cross 169 = .ok (.iload_n 3, 1) := by decide +kernel
theorem dX9_cross_170 : decode cX9_cross 170 = .ok (.iload 4, 2) := by decide +kernel
theorem dX9_cross_172 : decode cX9_cross 172 = .ok (.invokevirtual 189, 3) := by decide +kernel
theorem dX9_cross_175 : decode cX9_cross 175 = .ok (.iadd, 1) := by decide +kernel
theorem dX9_cross_176 : decode cX9_cross 176 = .ok (.iastore, 1) := by decide +kernel
theorem dX9_cross_177 : decode cX9_cross 177 = .ok (.aload_n 0, 1) := by decide +kernel
theorem dX9_cross_178 : decode cX9_cross 178 = .ok (.getfield 68, 3) := by decide +kernel
theorem dX9_cross_181 : decode cX9_cross 181 = .ok (.iload 7, 2) := by decide +kernel
theorem dX9_cross_183 : decode cX9_cross 183 = .ok (.aload_n 0, 1) := by decide +kernel
theorem dX9_cross_184 : decode cX9_cross 184 = .ok (.getfield 65, 3) := by decide +kernel
theorem dX9_cross_187 : decode cX9_cross 187 = .ok (.iload 7, 2) := by decide +kernel
theorem dX9_cross_189 : decode cX9_cross 189 = .ok (.iaload, 1) := by decide +kernel
theorem dX9_cross_190 : decode cX9_cross 190 = .ok (.aload_n 0, 1) := by decide +kernel
theorem dX9_cross_191 : decode cX9_cross 191 = .ok (.getfield 193, 3) := by decide +kernel
theorem dX9_cross_194 : decode cX9_cross 194 = .ok (.if_icmp .lt 7, 3) := by decide +kernel
theorem dX9_cross_197 : decode cX9_cross 197 = .ok (.iload_n 3, 1) := by decide +kernel
theorem dX9_cross_198 : decode cX9_cross 198 = .ok (.goto 6, 3) := by decide +kernel
theorem dX9_cross_201 : decode cX9_cross 201 = .ok (.sipush 999, 3) := by decide +kernel
theorem dX9_cross_204 : decode cX9_cross 204 = .ok (.iastore, 1) := by decide +kernel
theorem dX9_cross_205 : decode cX9_cross 205 = .ok (.iinc 7 1, 3) := by decide +kernel
theorem dX9_cross_208 : decode cX9_cross 208 = .ok (.goto (-127), 3) := by decide +kernel
theorem dX9_cross_211 : decode cX9_cross 211 = .ok (.iinc 3 1, 3) := by decide +kernel
theorem dX9_cross_214 : decode cX9_cross 214 = .ok (.goto (-182), 3) := by decide +kernel
theorem dX9_cross_217 : decode cX9_cross 217 = .ok (.iconst 0, 1) := by decide +kernel
theorem dX9_cross_218 : decode cX9_cross 218 = .ok (.istore_n 3, 1) := by decide +kernel
theorem dX9_cross_219 : decode cX9_cross 219 = .ok (.iload_n 3, 1) := by decide +kernel
theorem dX9_cross_220 : decode cX9_cross 220 = .ok (.aload_n 0, 1) := by decide +kernel
theorem dX9_cross_221 : decode cX9_cross 221 = .ok (.getfield 13, 3) := by decide +kernel
theorem dX9_cross_224 : decode cX9_cross 224 = .ok (.iconst 0, 1) := by decide +kernel
theorem dX9_cross_225 : decode cX9_cross 225 = .ok (.iaload, 1) := by decide +kernel
theorem dX9_cross_226 : decode cX9_cross 226 = .ok (.if_icmp .ge 55, 3) := by decide +kernel
theorem dX9_cross_229 : decode cX9_cross 229 = .ok (.aload_n 0, 1) := by decide +kernel
theorem dX9_cross_230 : decode cX9_cross 230 = .ok (.getfield 62, 3) := by decide +kernel
theorem dX9_cross_233 : decode cX9_cross 233 = .ok (.iload_n 1, 1) := by decide +kernel
theorem dX9_cross_234 : decode cX9_cross 234 = .ok (.bipush 8, 2) := by decide +kernel
theorem dX9_cross_236 : decode cX9_cross 236 = .ok (.iadd, 1) := by decide +kernel
theorem dX9_cross_237 : decode cX9_cross 237 = .ok (.iload_n 3, 1) := by decide +kernel
theorem dX9_cross_238 : decode cX9_cross 238 = .ok (.iadd, 1) := by decide +kernel
theorem dX9_cross_239 : decode cX9_cross 239 = .ok (.iaload, 1) := by decide +kernel
theorem dX9_cross_240 : decode cX9_cross 240 = .ok (.istore 4, 2) := by decide +kernel
theorem dX9_cross_242 : decode cX9_cross 242 = .ok (.iload 4, 2) := by decide +kernel
theorem dX9_cross_244 : decode cX9_cross 244 = .ok (.bipush (-4), 2) := by decide +kernel
theorem dX9_cross_246 : decode cX9_cross 246 = .ok (.if_icmp .eq 29, 3) := by decide +kernel
theorem dX9_cross_249 : decode cX9_cross 249 = .ok (.aload_n 0, 1) := by decide +kernel
theorem dX9_cross_250 : decode cX9_cross 250 = .ok (.getfield 65, 3) := by decide +kernel
theorem dX9_cross_253 : decode cX9_cross 253 = .ok (.iload_n 3, 1) := by decide +kernel
theorem dX9_cross_254 : decode cX9_cross 254 = .ok (.aload_n 0, 1) := by decide +kernel
theorem dX9_cross_255 : decode cX9_cross 255 = .ok (.getfield 65, 3) := by decide +kernel
theorem dX9_cross_258 : decode cX9_cross 258 = .ok (.iload 4, 2) := by decide +kernel
theorem dX9_cross_260 : decode cX9_cross 260 = .ok (.iaload, 1) := by decide +kernel
theorem dX9_cross_261 : decode cX9_cross 261 = .ok (.iastore, 1) := by decide +kernel
theorem dX9_cross_262 : decode cX9_cross 262 = .ok (.aload_n 0, 1) := by decide +kernel
theorem dX9_cross_263 : decode cX9_cross 263 = .ok (.getfield 68, 3) := by decide +kernel
theorem dX9_cross_266 : decode cX9_cross 266 = .ok (.iload_n 3, 1) := by decide +kernel
theorem dX9_cross_267 : decode cX9_cross 267 = .ok (.aload_n 0, 1) := by decide +kernel
theorem dX9_cross_268 : decode cX9_cross 268 = .ok (.getfield 68, 3) := by decide +kernel
theorem dX9_cross_271 : decode cX9_cross 271 = .ok (.iload 4, 2) := by decide +kernel
theorem dX9_cross_273 : decode cX9_cross 273 = .ok (.iaload, 1) := by decide +kernel
theorem dX9_cross_274 : decode cX9_cross 274 = .ok (.iastore, 1) := by decide +kernel
theorem dX9_cross_275 : decode cX9_cross 275 = .ok (.iinc 3 1, 3) := by decide +kernel
theorem dX9_cross_278 : decode cX9_cross 278 = .ok (.goto (-59), 3) := by decide +kernel
theorem dX9_cross_281 : decode cX9_cross 281 = .ok (.return_, 1) := by decide +kernel
theorem dX9_plain_0 : decode cX9_plain 0 = .ok (.aload_n 0, 1) := by decide +kernel
theorem dX9_plain_1 : decode cX9_plain 1 = .ok (.aload_n 0, 1) := by decide +kernel
theorem dX9_plain_2 : decode cX9_plain 2 = .ok (.getfield 29, 3) := by decide +kernel
theorem dX9_plain_5 : decode cX9_plain 5 = .ok (.iconst 0, 1) := by decide +kernel
theorem dX9_plain_6 : decode cX9_plain 6 = .ok (.iaload, 1) := by decide +kernel
theorem dX9_plain_7 : decode cX9_plain 7 = .ok (.putfield 193, 3) := by decide +kernel
theorem dX9_plain_10 : decode cX9_plain 10 = .ok (.aload_n 0, 1) := by decide +kernel
theorem dX9_plain_11 : decode cX9_plain 11 = .ok (.iconst 0, 1) := by decide +kernel
theorem dX9_plain_12 : decode cX9_plain 12 = .ok (.putfield 182, 3) := by decide +kernel
theorem dX9_plain_15 : decode cX9_plain 15 = .ok (.aload_n 0, 1) := by decide +kernel
theorem dX9_plain_16 : decode cX9_plain 16 = .ok (.iconst (-1), 1) := by decide +kernel
theorem dX9_plain_17 : decode cX9_plain 17 = .ok (.putfield 165, 3) := by decide +kernel
theorem dX9_plain_20 : decode cX9_plain 20 = .ok (.return_, 1) := by decide +kernel
theorem dX9_crossNow_0 : decode cX9_crossNow 0 = .ok (.aload_n 0, 1) := by decide +kernel
theorem dX9_crossNow_1 : decode cX9_crossNow 1 = .ok (.invokevirtual 196, 3) := by decide +kernel
theorem dX9_crossNow_4 : decode cX9_crossNow 4 = .ok (.aload_n 0, 1) := by decide +kernel
theorem dX9_crossNow_5 : decode cX9_crossNow 5 = .ok (.iconst 0, 1) := by decide +kernel
theorem dX9_crossNow_6 : decode cX9_crossNow 6 = .ok (.sipush 200, 3) := by decide +kernel
theorem dX9_crossNow_9 : decode cX9_crossNow 9 = .ok (.invokevirtual 199, 3) := by decide +kernel
theorem dX9_crossNow_12 : decode cX9_crossNow 12 = .ok (.return_, 1) := by decide +kernel
theorem dX9_where_0 : decode cX9_where 0 = .ok (.aload_n 0, 1) := by decide +kernel
theorem dX9_where_1 : decode cX9_where 1 = .ok (.iload_n 1, 1) := by decide +kernel
theorem dX9_where_2 : decode cX9_where 2 = .ok (.invokevirtual 152, 3) := by decide +kernel
theorem dX9_where_5 : decode cX9_where 5 = .ok (.ifCond .eq 14, 3) := by decide +kernel
theorem dX9_where_8 : decode cX9_where 8 = .ok (.iload_n 2, 1) := by decide +kernel
theorem dX9_where_9 : decode cX9_where 9 = .ok (.iconst 0, 1) := by decide +kernel
theorem dX9_where_10 : decode cX9_where 10 = .ok (.sipush 200, 3) := by decide +kernel
theorem dX9_where_13 : decode cX9_where 13 = .ok (.invokestatic 93, 3) := by decide +kernel
theorem dX9_where_16 : decode cX9_where 16 = .ok (.ifCond .ne 5, 3) := by decide +kernel
theorem dX9_where_19 : decode cX9_where 19 = .ok (.iconst (-1), 1) := by decide +kernel
theorem dX9_where_20 : decode cX9_where 20 = .ok (.ireturn, 1) := by decide +kernel
theorem dX9_where_21 : decode cX9_where 21 = .ok (.aload_n 0, 1) := by decide +kernel
theorem dX9_where_22 : decode cX9_where 22 = .ok (.invokevirtual 196, 3) := by decide +kernel
theorem dX9_where_25 : decode cX9_where 25 = .ok (.aload_n 0, 1) := by decide +kernel
theorem dX9_where_26 : decode cX9_where 26 = .ok (.iconst 0, 1) := by decide +kernel
theorem dX9_where_27 : decode cX9_where 27 = .ok (.iload_n 2, 1) := by decide +kernel
theorem dX9_where_28 : decode cX9_where 28 = .ok (.invokevirtual 199, 3) := by decide +kernel
theorem dX9_where_31 : decode cX9_where 31 = .ok (.aload_n 0, 1) := by decide +kernel
theorem dX9_where_32 : decode cX9_where 32 = .ok (.getfield 65, 3) := by decide +kernel
theorem dX9_where_35 : decode cX9_where 35 = .ok (.iload_n 1, 1) := by decide +kernel
theorem dX9_where_36 : decode cX9_where 36 = .ok (.iaload, 1) := by decide +kernel
theorem dX9_where_37 : decode cX9_where 37 = .ok (.aload_n 0, 1) := by decide +kernel
theorem dX9_where_38 : decode cX9_where 38 = .ok (.getfield 29, 3) := by decide +kernel
theorem dX9_where_41 : decode cX9_where 41 = .ok (.iconst 0, 1) := by decide +kernel
theorem dX9_where_42 : decode cX9_where 42 = .ok (.iaload, 1) := by decide +kernel
theorem dX9_where_43 : decode cX9_where 43 = .ok (.if_icmp .le 12, 3) := by decide +kernel
theorem dX9_where_46 : decode cX9_where 46 = .ok (.aload_n 0, 1) := by decide +kernel
theorem dX9_where_47 : decode cX9_where 47 = .ok (.getfield 29, 3) := by decide +kernel
theorem dX9_where_50 : decode cX9_where 50 = .ok (.iconst 0, 1) := by decide +kernel
theorem dX9_where_51 : decode cX9_where 51 = .ok (.iaload, 1) := by decide +kernel
theorem dX9_where_52 : decode cX9_where 52 = .ok (.goto 9, 3) := by decide +kernel
theorem dX9_where_55 : decode cX9_where 55 = .ok (.aload_n 0, 1) := by decide +kernel
theorem dX9_where_56 : decode cX9_where 56 = .ok (.getfield 65, 3) := by decide +kernel
theorem dX9_where_59 : decode cX9_where 59 = .ok (.iload_n 1, 1) := by decide +kernel
theorem dX9_where_60 : decode cX9_where 60 = .ok (.iaload, 1) := by decide +kernel
theorem dX9_where_61 : decode cX9_where 61 = .ok (.ireturn, 1) := by decide +kernel
theorem dX9_lands_0 : decode cX9_lands 0 = .ok (.aload_n 0, 1) := by decide +kernel
theorem dX9_lands_1 : decode cX9_lands 1 = .ok (.iload_n 1, 1) := by decide +kernel
theorem dX9_lands_2 : decode cX9_lands 2 = .ok (.invokevirtual 152, 3) := by decide +kernel
theorem dX9_lands_5 : decode cX9_lands 5 = .ok (.ifCond .ne 5, 3) := by decide +kernel
theorem dX9_lands_8 : decode cX9_lands 8 = .ok (.iconst (-1), 1) := by decide +kernel
theorem dX9_lands_9 : decode cX9_lands 9 = .ok (.ireturn, 1) := by decide +kernel
theorem dX9_lands_10 : decode cX9_lands 10 = .ok (.aload_n 0, 1) := by decide +kernel
theorem dX9_lands_11 : decode cX9_lands 11 = .ok (.invokevirtual 203, 3) := by decide +kernel
theorem dX9_lands_14 : decode cX9_lands 14 = .ok (.aload_n 0, 1) := by decide +kernel
theorem dX9_lands_15 : decode cX9_lands 15 = .ok (.getfield 68, 3) := by decide +kernel
theorem dX9_lands_18 : decode cX9_lands 18 = .ok (.iload_n 1, 1) := by decide +kernel
theorem dX9_lands_19 : decode cX9_lands 19 = .ok (.iaload, 1) := by decide +kernel
theorem dX9_lands_20 : decode cX9_lands 20 = .ok (.sipush 999, 3) := by decide +kernel
theorem dX9_lands_23 : decode cX9_lands 23 = .ok (.if_icmp .ne 8, 3) := by decide +kernel
theorem dX9_lands_26 : decode cX9_lands 26 = .ok (.bipush (-4), 2) := by decide +kernel
theorem dX9_lands_28 : decode cX9_lands 28 = .ok (.goto 9, 3) := by decide +kernel
theorem dX9_lands_31 : decode cX9_lands 31 = .ok (.aload_n 0, 1) := by decide +kernel
theorem dX9_lands_32 : decode cX9_lands 32 = .ok (.getfield 68, 3) := by decide +kernel
theorem dX9_lands_35 : decode cX9_lands 35 = .ok (.iload_n 1, 1) := by decide +kernel
theorem dX9_lands_36 : decode cX9_lands 36 = .ok (.iaload, 1) := by decide +kernel
theorem dX9_lands_37 : decode cX9_lands 37 = .ok (.ireturn, 1) := by decide +kernel
theorem dX9_rankedWith_0 : decode cX9_rankedWith 0 = .ok (.aload_n 0, 1) := by decide +kernel
theorem dX9_rankedWith_1 : decode cX9_rankedWith 1 = .ok (.getfield 68, 3) := by decide +kernel
theorem dX9_rankedWith_4 : decode cX9_rankedWith 4 = .ok (.iload_n 2, 1) := by decide +kernel
theorem dX9_rankedWith_5 : decode cX9_rankedWith 5 = .ok (.iaload, 1) := by decide +kernel
theorem dX9_rankedWith_6 : decode cX9_rankedWith 6 = .ok (.sipush 999, 3) := by decide +kernel
theorem dX9_rankedWith_9 : decode cX9_rankedWith 9 = .ok (.if_icmp .ne 8, 3) := by decide +kernel
theorem dX9_rankedWith_12 : decode cX9_rankedWith 12 = .ok (.bipush (-4), 2) := by decide +kernel
theorem dX9_rankedWith_14 : decode cX9_rankedWith 14 = .ok (.goto 14, 3) := by decide +kernel
theorem dX9_rankedWith_17 : decode cX9_rankedWith 17 = .ok (.aload_n 0, 1) := by decide +kernel
theorem dX9_rankedWith_18 : decode cX9_rankedWith 18 = .ok (.getfield 62, 3) := by decide +kernel
theorem dX9_rankedWith_21 : decode cX9_rankedWith 21 = .ok (.iload_n 1, 1) := by decide +kernel
theorem dX9_rankedWith_22 : decode cX9_rankedWith 22 = .ok (.bipush 8, 2) := by decide +kernel
theorem dX9_rankedWith_24 : decode cX9_rankedWith 24 = .ok (.iadd, 1) := by decide +kernel
theorem dX9_rankedWith_25 : decode cX9_rankedWith 25 = .ok (.iload_n 2, 1) := by decide +kernel
theorem dX9_rankedWith_26 : decode cX9_rankedWith 26 = .ok (.iadd, 1) := by decide +kernel
theorem dX9_rankedWith_27 : decode cX9_rankedWith 27 = .ok (.iaload, 1) := by decide +kernel
theorem dX9_rankedWith_28 : decode cX9_rankedWith 28 = .ok (.ireturn, 1) := by decide +kernel
theorem dX9_isAhead_0 : decode cX9_isAhead 0 = .ok (.aload_n 0, 1) := by decide +kernel
theorem dX9_isAhead_1 : decode cX9_isAhead 1 = .ok (.iload_n 1, 1) := by decide +kernel
theorem dX9_isAhead_2 : decode cX9_isAhead 2 = .ok (.iload_n 2, 1) := by decide +kernel
theorem dX9_isAhead_3 : decode cX9_isAhead 3 = .ok (.invokevirtual 206, 3) := by decide +kernel
theorem dX9_isAhead_6 : decode cX9_isAhead 6 = .ok (.istore 4, 2) := by decide +kernel
theorem dX9_isAhead_8 : decode cX9_isAhead 8 = .ok (.aload_n 0, 1) := by decide +kernel
theorem dX9_isAhead_9 : decode cX9_isAhead 9 = .ok (.iload_n 1, 1) := by decide +kernel
theorem dX9_isAhead_10 : decode cX9_isAhead 10 = .ok (.iload_n 3, 1) := by decide +kernel
theorem dX9_isAhead_11 : decode cX9_isAhead 11 = .ok (.invokevirtual 206, 3) := by decide +kernel
theorem dX9_isAhead_14 : decode cX9_isAhead 14 = .ok (.istore 5, 2) := by decide +kernel
theorem dX9_isAhead_16 : decode cX9_isAhead 16 = .ok (.iload 4, 2) := by decide +kernel
theorem dX9_isAhead_18 : decode cX9_isAhead 18 = .ok (.bipush (-4), 2) := by decide +kernel
theorem dX9_isAhead_20 : decode cX9_isAhead 20 = .ok (.if_icmp .ne 7, 3) := by decide +kernel
theorem dX9_isAhead_23 : decode cX9_isAhead 23 = .ok (.iload_n 2, 1) := by decide +kernel
theorem dX9_isAhead_24 : decode cX9_isAhead 24 = .ok (.goto 5, 3) := by decide +kernel
theorem dX9_isAhead_27 : decode cX9_isAhead 27 = .ok (.iload 4, 2) := by decide +kernel
theorem dX9_isAhead_29 : decode cX9_isAhead 29 = .ok (.istore 6, 2) := by decide +kernel
theorem dX9_isAhead_31 : decode cX9_isAhead 31 = .ok (.iload 5, 2) := by decide +kernel
theorem dX9_isAhead_33 : decode cX9_isAhead 33 = .ok (.bipush (-4), 2) := by decide +kernel
theorem dX9_isAhead_35 : decode cX9_isAhead 35 = .ok (.if_icmp .ne 7, 3) := by decide +kernel
theorem dX9_isAhead_38 : decode cX9_isAhead 38 = .ok (.iload_n 3, 1) := by decide +kernel
theorem dX9_isAhead_39 : decode cX9_isAhead 39 = .ok (.goto 5, 3) := by decide +kernel
theorem dX9_isAhead_42 : decode cX9_isAhead 42 = .ok (.iload 5, 2) := by decide +kernel
theorem dX9_isAhead_44 : decode cX9_isAhead 44 = .ok (.istore 7, 2) := by decide +kernel
theorem dX9_isAhead_46 : decode cX9_isAhead 46 = .ok (.iload 6, 2) := by decide +kernel
theorem dX9_isAhead_48 : decode cX9_isAhead 48 = .ok (.iload 7, 2) := by decide +kernel
theorem dX9_isAhead_50 : decode cX9_isAhead 50 = .ok (.if_icmp .ne 36, 3) := by decide +kernel
theorem dX9_isAhead_53 : decode cX9_isAhead 53 = .ok (.iload 4, 2) := by decide +kernel
theorem dX9_isAhead_55 : decode cX9_isAhead 55 = .ok (.bipush (-4), 2) := by decide +kernel
theorem dX9_isAhead_57 : decode cX9_isAhead 57 = .ok (.if_icmp .eq 27, 3) := by decide +kernel
theorem dX9_isAhead_60 : decode cX9_isAhead 60 = .ok (.iload 5, 2) := by decide +kernel
theorem dX9_isAhead_62 : decode cX9_isAhead 62 = .ok (.bipush (-4), 2) := by decide +kernel
theorem dX9_isAhead_64 : decode cX9_isAhead 64 = .ok (.if_icmp .eq 16, 3) := by decide +kernel
theorem dX9_isAhead_67 : decode cX9_isAhead 67 = .ok (.aload_n 0, 1) := by decide +kernel
theorem dX9_isAhead_68 : decode cX9_isAhead 68 = .ok (.iload_n 2, 1) := by decide +kernel
theorem dX9_isAhead_69 : decode cX9_isAhead 69 = .ok (.invokevirtual 159, 3) := by decide +kernel
theorem dX9_isAhead_72 : decode cX9_isAhead 72 = .ok (.aload_n 0, 1) := by decide +kernel
theorem dX9_isAhead_73 : decode cX9_isAhead 73 = .ok (.iload_n 3, 1) := by decide +kernel
theorem dX9_isAhead_74 : decode cX9_isAhead 74 = .ok (.invokevirtual 159, 3) := by decide +kernel
theorem dX9_isAhead_77 : decode cX9_isAhead 77 = .ok (.if_icmp .ge 7, 3) := by decide +kernel
theorem dX9_isAhead_80 : decode cX9_isAhead 80 = .ok (.iconst 1, 1) := by decide +kernel
theorem dX9_isAhead_81 : decode cX9_isAhead 81 = .ok (.goto 4, 3) := by decide +kernel
theorem dX9_isAhead_84 : decode cX9_isAhead 84 = .ok (.iconst 0, 1) := by decide +kernel
theorem dX9_isAhead_85 : decode cX9_isAhead 85 = .ok (.ireturn, 1) := by decide +kernel
theorem dX9_isAhead_86 : decode cX9_isAhead 86 = .ok (.aload_n 0, 1) := by decide +kernel
theorem dX9_isAhead_87 : decode cX9_isAhead 87 = .ok (.getfield 68, 3) := by decide +kernel
theorem dX9_isAhead_90 : decode cX9_isAhead 90 = .ok (.iload 6, 2) := by decide +kernel
theorem dX9_isAhead_92 : decode cX9_isAhead 92 = .ok (.iaload, 1) := by decide +kernel
theorem dX9_isAhead_93 : decode cX9_isAhead 93 = .ok (.aload_n 0, 1) := by decide +kernel
theorem dX9_isAhead_94 : decode cX9_isAhead 94 = .ok (.getfield 68, 3) := by decide +kernel
theorem dX9_isAhead_97 : decode cX9_isAhead 97 = .ok (.iload 7, 2) := by decide +kernel
theorem dX9_isAhead_99 : decode cX9_isAhead 99 = .ok (.iaload, 1) := by decide +kernel
theorem dX9_isAhead_100 : decode cX9_isAhead 100 = .ok (.if_icmp .eq 28, 3) := by decide +kernel
theorem dX9_isAhead_103 : decode cX9_isAhead 103 = .ok (.aload_n 0, 1) := by decide +kernel
theorem dX9_isAhead_104 : decode cX9_isAhead 104 = .ok (.getfield 68, 3) := by decide +kernel
theorem dX9_isAhead_107 : decode cX9_isAhead 107 = .ok (.iload 6, 2) := by decide +kernel
theorem dX9_isAhead_109 : decode cX9_isAhead 109 = .ok (.iaload, 1) := by decide +kernel
theorem dX9_isAhead_110 : decode cX9_isAhead 110 = .ok (.aload_n 0, 1) := by decide +kernel
theorem dX9_isAhead_111 : decode cX9_isAhead 111 = .ok (.getfield 68, 3) := by decide +kernel
theorem dX9_isAhead_114 : decode cX9_isAhead 114 = .ok (.iload 7, 2) := by decide +kernel
theorem dX9_isAhead_116 : decode cX9_isAhead 116 = .ok (.iaload, 1) := by decide +kernel
theorem dX9_isAhead_117 : decode cX9_isAhead 117 = .ok (.if_icmp .ge 7, 3) := by decide +kernel
theorem dX9_isAhead_120 : decode cX9_isAhead 120 = .ok (.iconst 1, 1) := by decide +kernel
theorem dX9_isAhead_121 : decode cX9_isAhead 121 = .ok (.goto 27, 3) := by decide +kernel
theorem dX9_isAhead_124 : decode cX9_isAhead 124 = .ok (.iconst 0, 1) := by decide +kernel
theorem dX9_isAhead_125 : decode cX9_isAhead 125 = .ok (.goto 23, 3) := by decide +kernel
theorem dX9_isAhead_128 : decode cX9_isAhead 128 = .ok (.aload_n 0, 1) := by decide +kernel
theorem dX9_isAhead_129 : decode cX9_isAhead 129 = .ok (.iload 6, 2) := by decide +kernel
theorem dX9_isAhead_131 : decode cX9_isAhead 131 = .ok (.invokevirtual 159, 3) := by decide +kernel
theorem dX9_isAhead_134 : decode cX9_isAhead 134 = .ok (.aload_n 0, 1) := by decide +kernel
theorem dX9_isAhead_135 : decode cX9_isAhead 135 = .ok (.iload 7, 2) := by decide +kernel
theorem dX9_isAhead_137 : decode cX9_isAhead 137 = .ok (.invokevirtual 159, 3) := by decide +kernel
theorem dX9_isAhead_140 : decode cX9_isAhead 140 = .ok (.if_icmp .ge 7, 3) := by decide +kernel
theorem dX9_isAhead_143 : decode cX9_isAhead 143 = .ok (.iconst 1, 1) := by decide +kernel
theorem dX9_isAhead_144 : decode cX9_isAhead 144 = .ok (.goto 4, 3) := by decide +kernel
theorem dX9_isAhead_147 : decode cX9_isAhead 147 = .ok (.iconst 0, 1) := by decide +kernel
theorem dX9_isAhead_148 : decode cX9_isAhead 148 = .ok (.ireturn, 1) := by decide +kernel
theorem dX9_rankOf_0 : decode cX9_rankOf 0 = .ok (.iconst 1, 1) := by decide +kernel
theorem dX9_rankOf_1 : decode cX9_rankOf 1 = .ok (.istore_n 3, 1) := by decide +kernel
theorem dX9_rankOf_2 : decode cX9_rankOf 2 = .ok (.iconst 0, 1) := by decide +kernel
theorem dX9_rankOf_3 : decode cX9_rankOf 3 = .ok (.istore 4, 2) := by decide +kernel
theorem dX9_rankOf_5 : decode cX9_rankOf 5 = .ok (.iload 4, 2) := by decide +kernel
theorem dX9_rankOf_7 : decode cX9_rankOf 7 = .ok (.aload_n 0, 1) := by decide +kernel
theorem dX9_rankOf_8 : decode cX9_rankOf 8 = .ok (.getfield 13, 3) := by decide +kernel
theorem dX9_rankOf_11 : decode cX9_rankOf 11 = .ok (.iconst 0, 1) := by decide +kernel
theorem dX9_rankOf_12 : decode cX9_rankOf 12 = .ok (.iaload, 1) := by decide +kernel
theorem dX9_rankOf_13 : decode cX9_rankOf 13 = .ok (.if_icmp .ge 34, 3) := by decide +kernel
theorem dX9_rankOf_16 : decode cX9_rankOf 16 = .ok (.iload_n 3, 1) := by decide +kernel
theorem dX9_rankOf_17 : decode cX9_rankOf 17 = .ok (.iload 4, 2) := by decide +kernel
theorem dX9_rankOf_19 : decode cX9_rankOf 19 = .ok (.iload_n 2, 1) := by decide +kernel
theorem dX9_rankOf_20 : decode cX9_rankOf 20 = .ok (.if_icmp .eq 18, 3) := by decide +kernel
theorem dX9_rankOf_23 : decode cX9_rankOf 23 = .ok (.aload_n 0, 1) := by decide +kernel
theorem dX9_rankOf_24 : decode cX9_rankOf 24 = .ok (.iload_n 1, 1) := by decide +kernel
theorem dX9_rankOf_25 : decode cX9_rankOf 25 = .ok (.iload 4, 2) := by decide +kernel
theorem dX9_rankOf_27 : decode cX9_rankOf 27 = .ok (.iload_n 2, 1) := by decide +kernel
theorem dX9_rankOf_28 : decode cX9_rankOf 28 = .ok (.invokevirtual 210, 3) := by decide +kernel
theorem dX9_rankOf_31 : decode cX9_rankOf 31 = .ok (.ifCond .eq 7, 3) := by decide +kernel
theorem dX9_rankOf_34 : decode cX9_rankOf 34 = .ok (.iconst 1, 1) := by decide +kernel
theorem dX9_rankOf_35 : decode cX9_rankOf 35 = .ok (.goto 4, 3) := by decide +kernel
theorem dX9_rankOf_38 : decode cX9_rankOf 38 = .ok (.iconst 0, 1) := by decide +kernel
theorem dX9_rankOf_39 : decode cX9_rankOf 39 = .ok (.iadd, 1) := by decide +kernel
theorem dX9_rankOf_40 : decode cX9_rankOf 40 = .ok (.istore_n 3, 1) := by decide +kernel
theorem dX9_rankOf_41 : decode cX9_rankOf 41 = .ok (.iinc 4 1, 3) := by decide +kernel
theorem dX9_rankOf_44 : decode cX9_rankOf 44 = .ok (.goto (-39), 3) := by decide +kernel
theorem dX9_rankOf_47 : decode cX9_rankOf 47 = .ok (.iload_n 3, 1) := by decide +kernel
theorem dX9_rankOf_48 : decode cX9_rankOf 48 = .ok (.ireturn, 1) := by decide +kernel
theorem dX9_findRanks_0 : decode cX9_findRanks 0 = .ok (.iconst 0, 1) := by decide +kernel
theorem dX9_findRanks_1 : decode cX9_findRanks 1 = .ok (.istore_n 2, 1) := by decide +kernel
theorem dX9_findRanks_2 : decode cX9_findRanks 2 = .ok (.iload_n 2, 1) := by decide +kernel
theorem dX9_findRanks_3 : decode cX9_findRanks 3 = .ok (.aload_n 0, 1) := by decide +kernel
theorem dX9_findRanks_4 : decode cX9_findRanks 4 = .ok (.getfield 13, 3) := by decide +kernel
theorem dX9_findRanks_7 : decode cX9_findRanks 7 = .ok (.iconst 0, 1) := by decide +kernel
theorem dX9_findRanks_8 : decode cX9_findRanks 8 = .ok (.iaload, 1) := by decide +kernel
theorem dX9_findRanks_9 : decode cX9_findRanks 9 = .ok (.if_icmp .ge 23, 3) := by decide +kernel
theorem dX9_findRanks_12 : decode cX9_findRanks 12 = .ok (.aload_n 0, 1) := by decide +kernel
theorem dX9_findRanks_13 : decode cX9_findRanks 13 = .ok (.getfield 71, 3) := by decide +kernel
theorem dX9_findRanks_16 : decode cX9_findRanks 16 = .ok (.aload_n 0, 1) := by decide +kernel
theorem dX9_findRanks_17 : decode cX9_findRanks 17 = .ok (.iload_n 1, 1) := by decide +kernel
theorem dX9_findRanks_18 : decode cX9_findRanks 18 = .ok (.iload_n 2, 1) := by decide +kernel
theorem dX9_findRanks_19 : decode cX9_findRanks 19 = .ok (.invokevirtual 213, 3) := by decide +kernel
theorem dX9_findRanks_22 : decode cX9_findRanks 22 = .ok (.iconst 1, 1) := by decide +kernel
theorem dX9_findRanks_23 : decode cX9_findRanks 23 = .ok (.isub, 1) := by decide +kernel
theorem dX9_findRanks_24 : decode cX9_findRanks 24 = .ok (.iload_n 2, 1) := by decide +kernel
theorem dX9_findRanks_25 : decode cX9_findRanks 25 = .ok (.iastore, 1) := by decide +kernel
theorem dX9_findRanks_26 : decode cX9_findRanks 26 = .ok (.iinc 2 1, 3) := by decide +kernel
theorem dX9_findRanks_29 : decode cX9_findRanks 29 = .ok (.goto (-27), 3) := by decide +kernel
theorem dX9_findRanks_32 : decode cX9_findRanks 32 = .ok (.return_, 1) := by decide +kernel
theorem dX9_rank_0 : decode cX9_rank 0 = .ok (.aload_n 0, 1) := by decide +kernel
theorem dX9_rank_1 : decode cX9_rank 1 = .ok (.iload_n 1, 1) := by decide +kernel
theorem dX9_rank_2 : decode cX9_rank 2 = .ok (.invokevirtual 152, 3) := by decide +kernel
theorem dX9_rank_5 : decode cX9_rank 5 = .ok (.ifCond .ne 5, 3) := by decide +kernel
theorem dX9_rank_8 : decode cX9_rank 8 = .ok (.iconst (-1), 1) := by decide +kernel
theorem dX9_rank_9 : decode cX9_rank 9 = .ok (.ireturn, 1) := by decide +kernel
theorem dX9_rank_10 : decode cX9_rank 10 = .ok (.aload_n 0, 1) := by decide +kernel
theorem dX9_rank_11 : decode cX9_rank 11 = .ok (.invokevirtual 203, 3) := by decide +kernel
theorem dX9_rank_14 : decode cX9_rank 14 = .ok (.aload_n 0, 1) := by decide +kernel
theorem dX9_rank_15 : decode cX9_rank 15 = .ok (.iconst 0, 1) := by decide +kernel
theorem dX9_rank_16 : decode cX9_rank 16 = .ok (.iload_n 1, 1) := by decide +kernel
theorem dX9_rank_17 : decode cX9_rank 17 = .ok (.invokevirtual 213, 3) := by decide +kernel
theorem dX9_rank_20 : decode cX9_rank 20 = .ok (.ireturn, 1) := by decide +kernel
theorem dX9_who_0 : decode cX9_who 0 = .ok (.iload_n 1, 1) := by decide +kernel
theorem dX9_who_1 : decode cX9_who 1 = .ok (.iconst 1, 1) := by decide +kernel
theorem dX9_who_2 : decode cX9_who 2 = .ok (.aload_n 0, 1) := by decide +kernel
theorem dX9_who_3 : decode cX9_who 3 = .ok (.getfield 13, 3) := by decide +kernel
theorem dX9_who_6 : decode cX9_who 6 = .ok (.iconst 0, 1) := by decide +kernel
theorem dX9_who_7 : decode cX9_who 7 = .ok (.iaload, 1) := by decide +kernel
theorem dX9_who_8 : decode cX9_who 8 = .ok (.invokestatic 93, 3) := by decide +kernel
theorem dX9_who_11 : decode cX9_who 11 = .ok (.ifCond .ne 5, 3) := by decide +kernel
theorem dX9_who_14 : decode cX9_who 14 = .ok (.iconst (-1), 1) := by decide +kernel
theorem dX9_who_15 : decode cX9_who 15 = .ok (.ireturn, 1) := by decide +kernel
theorem dX9_who_16 : decode cX9_who 16 = .ok (.aload_n 0, 1) := by decide +kernel
theorem dX9_who_17 : decode cX9_who 17 = .ok (.invokevirtual 203, 3) := by decide +kernel
theorem dX9_who_20 : decode cX9_who 20 = .ok (.aload_n 0, 1) := by decide +kernel
theorem dX9_who_21 : decode cX9_who 21 = .ok (.iconst 0, 1) := by decide +kernel
theorem dX9_who_22 : decode cX9_who 22 = .ok (.invokevirtual 216, 3) := by decide +kernel
theorem dX9_who_25 : decode cX9_who 25 = .ok (.aload_n 0, 1) := by decide +kernel
theorem dX9_who_26 : decode cX9_who 26 = .ok (.getfield 71, 3) := by decide +kernel
theorem dX9_who_29 : decode cX9_who 29 = .ok (.iload_n 1, 1) := by decide +kernel
theorem dX9_who_30 : decode cX9_who 30 = .ok (.iconst 1, 1) := by decide +kernel
theorem dX9_who_31 : decode cX9_who 31 = .ok (.isub, 1) := by decide +kernel
theorem dX9_who_32 : decode cX9_who 32 = .ok (.iaload, 1) := by decide +kernel
theorem dX9_who_33 : decode cX9_who 33 = .ok (.ireturn, 1) := by decide +kernel
theorem dX9_know_0 : decode cX9_know 0 = .ok (.aload_n 0, 1) := by decide +kernel
theorem dX9_know_1 : decode cX9_know 1 = .ok (.getfield 143, 3) := by decide +kernel
theorem dX9_know_4 : decode cX9_know 4 = .ok (.bipush 8, 2) := by decide +kernel
theorem dX9_know_6 : decode cX9_know 6 = .ok (.if_icmp .ne 45, 3) := by decide +kernel
theorem dX9_know_9 : decode cX9_know 9 = .ok (.iconst 0, 1) := by decide +kernel
theorem dX9_know_10 : decode cX9_know 10 = .ok (.istore_n 1, 1) := by decide +kernel
theorem dX9_know_11 : decode cX9_know 11 = .ok (.iload_n 1, 1) := by decide +kernel
theorem dX9_know_12 : decode cX9_know 12 = .ok (.bipush 112, 2) := by decide +kernel
theorem dX9_know_14 : decode cX9_know 14 = .ok (.if_icmp .ge 27, 3) := by decide +kernel
theorem dX9_know_17 : decode cX9_know 17 = .ok (.aload_n 0, 1) := by decide +kernel
theorem dX9_know_18 : decode cX9_know 18 = .ok (.getfield 62, 3) := by decide +kernel
theorem dX9_know_21 : decode cX9_know 21 = .ok (.bipush 16, 2) := by decide +kernel
theorem dX9_know_23 : decode cX9_know 23 = .ok (.iload_n 1, 1) := by decide +kernel
theorem dX9_know_24 : decode cX9_know 24 = .ok (.iadd, 1) := by decide +kernel
theorem dX9_know_25 : decode cX9_know 25 = .ok (.aload_n 0, 1) := by decide +kernel
theorem dX9_know_26 : decode cX9_know 26 = .ok (.getfield 62, 3) := by decide +kernel
theorem dX9_know_29 : decode cX9_know 29 = .ok (.bipush 32, 2) := by decide +kernel
theorem dX9_know_31 : decode cX9_know 31 = .ok (.iload_n 1, 1) := by decide +kernel
theorem dX9_know_32 : decode cX9_know 32 = .ok (.iadd, 1) := by decide +kernel
theorem dX9_know_33 : decode cX9_know 33 = .ok (.iaload, 1) := by decide +kernel
theorem dX9_know_34 : decode cX9_know 34 = .ok (.iastore, 1) := by decide +kernel
theorem dX9_know_35 : decode cX9_know 35 = .ok (.iinc 1 1, 3) := by decide +kernel
theorem dX9_know_38 : decode cX9_know 38 = .ok (.goto (-27), 3) := by decide +kernel
theorem dX9_know_41 : decode cX9_know 41 = .ok (.aload_n 0, 1) := by decide +kernel
theorem dX9_know_42 : decode cX9_know 42 = .ok (.dup, 1) := by decide +kernel
theorem dX9_know_43 : decode cX9_know 43 = .ok (.getfield 143, 3) := by decide +kernel
theorem dX9_know_46 : decode cX9_know 46 = .ok (.iconst 1, 1) := by decide +kernel
theorem dX9_know_47 : decode cX9_know 47 = .ok (.isub, 1) := by decide +kernel
theorem dX9_know_48 : decode cX9_know 48 = .ok (.putfield 143, 3) := by decide +kernel
theorem dX9_know_51 : decode cX9_know 51 = .ok (.aload_n 0, 1) := by decide +kernel
theorem dX9_know_52 : decode cX9_know 52 = .ok (.iconst 0, 1) := by decide +kernel
theorem dX9_know_53 : decode cX9_know 53 = .ok (.bipush 16, 2) := by decide +kernel
theorem dX9_know_55 : decode cX9_know 55 = .ok (.bipush 16, 2) := by decide +kernel
theorem dX9_know_57 : decode cX9_know 57 = .ok (.aload_n 0, 1) := by decide +kernel
theorem dX9_know_58 : decode cX9_know 58 = .ok (.getfield 143, 3) := by decide +kernel
theorem dX9_know_61 : decode cX9_know 61 = .ok (.imul, 1) := by decide +kernel
theorem dX9_know_62 : decode cX9_know 62 = .ok (.iadd, 1) := by decide +kernel
theorem dX9_know_63 : decode cX9_know 63 = .ok (.invokevirtual 220, 3) := by decide +kernel
theorem dX9_know_66 : decode cX9_know 66 = .ok (.aload_n 0, 1) := by decide +kernel
theorem dX9_know_67 : decode cX9_know 67 = .ok (.dup, 1) := by decide +kernel
theorem dX9_know_68 : decode cX9_know 68 = .ok (.getfield 143, 3) := by decide +kernel
theorem dX9_know_71 : decode cX9_know 71 = .ok (.iconst 1, 1) := by decide +kernel
theorem dX9_know_72 : decode cX9_know 72 = .ok (.iadd, 1) := by decide +kernel
theorem dX9_know_73 : decode cX9_know 73 = .ok (.putfield 143, 3) := by decide +kernel
theorem dX9_know_76 : decode cX9_know 76 = .ok (.return_, 1) := by decide +kernel
theorem dX9_start_0 : decode cX9_start 0 = .ok (.aload_n 0, 1) := by decide +kernel
theorem dX9_start_1 : decode cX9_start 1 = .ok (.iload_n 1, 1) := by decide +kernel
theorem dX9_start_2 : decode cX9_start 2 = .ok (.invokevirtual 152, 3) := by decide +kernel
theorem dX9_start_5 : decode cX9_start 5 = .ok (.ifCond .eq 13, 3) := by decide +kernel
theorem dX9_start_8 : decode cX9_start 8 = .ok (.iload_n 2, 1) := by decide +kernel
theorem dX9_start_9 : decode cX9_start 9 = .ok (.iconst 0, 1) := by decide +kernel
theorem dX9_start_10 : decode cX9_start 10 = .ok (.bipush 30, 2) := by decide +kernel
theorem dX9_start_12 : decode cX9_start 12 = .ok (.invokestatic 93, 3) := by decide +kernel
theorem dX9_start_15 : decode cX9_start 15 = .ok (.ifCond .ne 5, 3) := by decide +kernel
theorem dX9_start_18 : decode cX9_start 18 = .ok (.iconst (-1), 1) := by decide +kernel
theorem dX9_start_19 : decode cX9_start 19 = .ok (.ireturn, 1) := by decide +kernel
theorem dX9_start_20 : decode cX9_start 20 = .ok (.aload_n 0, 1) := by decide +kernel
theorem dX9_start_21 : decode cX9_start 21 = .ok (.invokevirtual 223, 3) := by decide +kernel
theorem dX9_start_24 : decode cX9_start 24 = .ok (.aload_n 0, 1) := by decide +kernel
theorem dX9_start_25 : decode cX9_start 25 = .ok (.getfield 62, 3) := by decide +kernel
theorem dX9_start_28 : decode cX9_start 28 = .ok (.iconst 0, 1) := by decide +kernel
theorem dX9_start_29 : decode cX9_start 29 = .ok (.iload_n 1, 1) := by decide +kernel
theorem dX9_start_30 : decode cX9_start 30 = .ok (.iadd, 1) := by decide +kernel
theorem dX9_start_31 : decode cX9_start 31 = .ok (.iaload, 1) := by decide +kernel
theorem dX9_start_32 : decode cX9_start 32 = .ok (.istore_n 3, 1) := by decide +kernel
theorem dX9_start_33 : decode cX9_start 33 = .ok (.aload_n 0, 1) := by decide +kernel
theorem dX9_start_34 : decode cX9_start 34 = .ok (.getfield 62, 3) := by decide +kernel
theorem dX9_start_37 : decode cX9_start 37 = .ok (.iconst 0, 1) := by decide +kernel
theorem dX9_start_38 : decode cX9_start 38 = .ok (.iload_n 1, 1) := by decide +kernel
theorem dX9_start_39 : decode cX9_start 39 = .ok (.iadd, 1) := by decide +kernel
theorem dX9_start_40 : decode cX9_start 40 = .ok (.iload_n 2, 1) := by decide +kernel
theorem dX9_start_41 : decode cX9_start 41 = .ok (.iastore, 1) := by decide +kernel
theorem dX9_start_42 : decode cX9_start 42 = .ok (.iload_n 3, 1) := by decide +kernel
theorem dX9_start_43 : decode cX9_start 43 = .ok (.ireturn, 1) := by decide +kernel
theorem dX9_hasRider_0 : decode cX9_hasRider 0 = .ok (.iconst 0, 1) := by decide +kernel
theorem dX9_hasRider_1 : decode cX9_hasRider 1 = .ok (.istore_n 2, 1) := by decide +kernel
theorem dX9_hasRider_2 : decode cX9_hasRider 2 = .ok (.iconst 0, 1) := by decide +kernel
theorem dX9_hasRider_3 : decode cX9_hasRider 3 = .ok (.istore_n 3, 1) := by decide +kernel
theorem dX9_hasRider_4 : decode cX9_hasRider 4 = .ok (.iload_n 3, 1) := by decide +kernel
theorem dX9_hasRider_5 : decode cX9_hasRider 5 = .ok (.aload_n 0, 1) := by decide +kernel
theorem dX9_hasRider_6 : decode cX9_hasRider 6 = .ok (.getfield 13, 3) := by decide +kernel
theorem dX9_hasRider_9 : decode cX9_hasRider 9 = .ok (.iconst 0, 1) := by decide +kernel
theorem dX9_hasRider_10 : decode cX9_hasRider 10 = .ok (.iaload, 1) := by decide +kernel
theorem dX9_hasRider_11 : decode cX9_hasRider 11 = .ok (.if_icmp .ge 32, 3) := by decide +kernel
theorem dX9_hasRider_14 : decode cX9_hasRider 14 = .ok (.iload_n 2, 1) := by decide +kernel
theorem dX9_hasRider_15 : decode cX9_hasRider 15 = .ok (.ifCond .ne 16, 3) := by decide +kernel
theorem dX9_hasRider_18 : decode cX9_hasRider 18 = .ok (.aload_n 0, 1) := by decide +kernel
theorem dX9_hasRider_19 : decode cX9_hasRider 19 = .ok (.getfield 62, 3) := by decide +kernel
theorem dX9_hasRider_22 : decode cX9_hasRider 22 = .ok (.bipush 8, 2) := by decide +kernel
theorem dX9_hasRider_24 : decode cX9_hasRider 24 = .ok (.iload_n 3, 1) := by decide +kernel
theorem dX9_hasRider_25 : decode cX9_hasRider 25 = .ok (.iadd, 1) := by decide +kernel
theorem dX9_hasRider_26 : decode cX9_hasRider 26 = .ok (.iaload, 1) := by decide +kernel
theorem dX9_hasRider_27 : decode cX9_hasRider 27 = .ok (.iload_n 1, 1) := by decide +kernel
theorem dX9_hasRider_28 : decode cX9_hasRider 28 = .ok (.if_icmp .ne 7, 3) := by decide +kernel
theorem dX9_hasRider_31 : decode cX9_hasRider 31 = .ok (.iconst 1, 1) := by decide +kernel
theorem dX9_hasRider_32 : decode cX9_hasRider 32 = .ok (.goto 4, 3) := by decide +kernel
theorem dX9_hasRider_35 : decode cX9_hasRider 35 = .ok (.iconst 0, 1) := by decide +kernel
theorem dX9_hasRider_36 : decode cX9_hasRider 36 = .ok (.istore_n 2, 1) := by decide +kernel
theorem dX9_hasRider_37 : decode cX9_hasRider 37 = .ok (.iinc 3 1, 3) := by decide +kernel
theorem dX9_hasRider_40 : decode cX9_hasRider 40 = .ok (.goto (-36), 3) := by decide +kernel
theorem dX9_hasRider_43 : decode cX9_hasRider 43 = .ok (.iload_n 2, 1) := by decide +kernel
theorem dX9_hasRider_44 : decode cX9_hasRider 44 = .ok (.ireturn, 1) := by decide +kernel
theorem dX9_ride_0 : decode cX9_ride 0 = .ok (.aload_n 0, 1) := by decide +kernel
theorem dX9_ride_1 : decode cX9_ride 1 = .ok (.iload_n 1, 1) := by decide +kernel
theorem dX9_ride_2 : decode cX9_ride 2 = .ok (.invokevirtual 152, 3) := by decide +kernel
theorem dX9_ride_5 : decode cX9_ride 5 = .ok (.ifCond .eq 16, 3) := by decide +kernel
theorem dX9_ride_8 : decode cX9_ride 8 = .ok (.aload_n 0, 1) := by decide +kernel
theorem dX9_ride_9 : decode cX9_ride 9 = .ok (.iload_n 2, 1) := by decide +kernel
theorem dX9_ride_10 : decode cX9_ride 10 = .ok (.invokevirtual 152, 3) := by decide +kernel
theorem dX9_ride_13 : decode cX9_ride 13 = .ok (.ifCond .eq 8, 3) := by decide +kernel
theorem dX9_ride_16 : decode cX9_ride 16 = .ok (.iload_n 1, 1) := by decide +kernel
theorem dX9_ride_17 : decode cX9_ride 17 = .ok (.iload_n 2, 1) := by decide +kernel
theorem dX9_ride_18 : decode cX9_ride 18 = .ok (.if_icmp .ne 5, 3) := by decide +kernel
theorem dX9_ride_21 : decode cX9_ride 21 = .ok (.iconst (-1), 1) := by decide +kernel
theorem dX9_ride_22 : decode cX9_ride 22 = .ok (.ireturn, 1) := by decide +kernel
theorem dX9_ride_23 : decode cX9_ride 23 = .ok (.aload_n 0, 1) := by decide +kernel
theorem dX9_ride_24 : decode cX9_ride 24 = .ok (.getfield 62, 3) := by decide +kernel
theorem dX9_ride_27 : decode cX9_ride 27 = .ok (.bipush 8, 2) := by decide +kernel
theorem dX9_ride_29 : decode cX9_ride 29 = .ok (.iload_n 2, 1) := by decide +kernel
theorem dX9_ride_30 : decode cX9_ride 30 = .ok (.iadd, 1) := by decide +kernel
theorem dX9_ride_31 : decode cX9_ride 31 = .ok (.iaload, 1) := by decide +kernel
theorem dX9_ride_32 : decode cX9_ride 32 = .ok (.bipush (-4), 2) := by decide +kernel
theorem dX9_ride_34 : decode cX9_ride 34 = .ok (.if_icmp .ne 21, 3) := by decide +kernel
theorem dX9_ride_37 : decode cX9_ride 37 = .ok (.aload_n 0, 1) := by decide +kernel
theorem dX9_ride_38 : decode cX9_ride 38 = .ok (.iload_n 1, 1) := by decide +kernel
theorem dX9_ride_39 : decode cX9_ride 39 = .ok (.invokevirtual 226, 3) := by decide +kernel
theorem dX9_ride_42 : decode cX9_ride 42 = .ok (.ifCond .ne 13, 3) := by decide +kernel
theorem dX9_ride_45 : decode cX9_ride 45 = .ok (.aload_n 0, 1) := by decide +kernel
theorem dX9_ride_46 : decode cX9_ride 46 = .ok (.iload_n 1, 1) := by decide +kernel
theorem dX9_ride_47 : decode cX9_ride 47 = .ok (.invokevirtual 156, 3) := by decide +kernel
theorem dX9_ride_50 : decode cX9_ride 50 = .ok (.bipush (-4), 2) := by decide +kernel
theorem dX9_ride_52 : decode cX9_ride 52 = .ok (.if_icmp .eq 6, 3) := by decide +kernel
theorem dX9_ride_55 : decode cX9_ride 55 = .ok (.bipush (-2), 2) := by decide +kernel
theorem dX9_ride_57 : decode cX9_ride 57 = .ok (.ireturn, 1) := by decide +kernel
theorem dX9_ride_58 : decode cX9_ride 58 = .ok (.aload_n 0, 1) := by decide +kernel
theorem dX9_ride_59 : decode cX9_ride 59 = .ok (.invokevirtual 223, 3) := by decide +kernel
theorem dX9_ride_62 : decode cX9_ride 62 = .ok (.aload_n 0, 1) := by decide +kernel
theorem dX9_ride_63 : decode cX9_ride 63 = .ok (.getfield 62, 3) := by decide +kernel
theorem dX9_ride_66 : decode cX9_ride 66 = .ok (.bipush 8, 2) := by decide +kernel
theorem dX9_ride_68 : decode cX9_ride 68 = .ok (.iload_n 1, 1) := by decide +kernel
theorem dX9_ride_69 : decode cX9_ride 69 = .ok (.iadd, 1) := by decide +kernel
theorem dX9_ride_70 : decode cX9_ride 70 = .ok (.iaload, 1) := by decide +kernel
theorem dX9_ride_71 : decode cX9_ride 71 = .ok (.istore_n 3, 1) := by decide +kernel
theorem dX9_ride_72 : decode cX9_ride 72 = .ok (.aload_n 0, 1) := by decide +kernel
theorem dX9_ride_73 : decode cX9_ride 73 = .ok (.getfield 62, 3) := by decide +kernel
theorem dX9_ride_76 : decode cX9_ride 76 = .ok (.bipush 8, 2) := by decide +kernel
theorem dX9_ride_78 : decode cX9_ride 78 = .ok (.iload_n 1, 1) := by decide +kernel
theorem dX9_ride_79 : decode cX9_ride 79 = .ok (.iadd, 1) := by decide +kernel
theorem dX9_ride_80 : decode cX9_ride 80 = .ok (.iload_n 2, 1) := by decide +kernel
theorem dX9_ride_81 : decode cX9_ride 81 = .ok (.iastore, 1) := by decide +kernel
theorem dX9_ride_82 : decode cX9_ride 82 = .ok (.iload_n 3, 1) := by decide +kernel
theorem dX9_ride_83 : decode cX9_ride 83 = .ok (.ireturn, 1) := by decide +kernel
theorem dX9_leave_0 : decode cX9_leave 0 = .ok (.aload_n 0, 1) := by decide +kernel
theorem dX9_leave_1 : decode cX9_leave 1 = .ok (.iload_n 1, 1) := by decide +kernel
theorem dX9_leave_2 : decode cX9_leave 2 = .ok (.invokevirtual 152, 3) := by decide +kernel
theorem dX9_leave_5 : decode cX9_leave 5 = .ok (.ifCond .ne 5, 3) := by decide +kernel
theorem dX9_leave_8 : decode cX9_leave 8 = .ok (.iconst (-1), 1) := by decide +kernel
theorem dX9_leave_9 : decode cX9_leave 9 = .ok (.ireturn, 1) := by decide +kernel
theorem dX9_leave_10 : decode cX9_leave 10 = .ok (.aload_n 0, 1) := by decide +kernel
theorem dX9_leave_11 : decode cX9_leave 11 = .ok (.getfield 62, 3) := by decide +kernel
theorem dX9_leave_14 : decode cX9_leave 14 = .ok (.bipush 8, 2) := by decide +kernel
theorem dX9_leave_16 : decode cX9_leave 16 = .ok (.iload_n 1, 1) := by decide +kernel
theorem dX9_leave_17 : decode cX9_leave 17 = .ok (.iadd, 1) := by decide +kernel
theorem dX9_leave_18 : decode cX9_leave 18 = .ok (.iaload, 1) := by decide +kernel
theorem dX9_leave_19 : decode cX9_leave 19 = .ok (.bipush (-4), 2) := by decide +kernel
theorem dX9_leave_21 : decode cX9_leave 21 = .ok (.if_icmp .ne 6, 3) := by decide +kernel
theorem dX9_leave_24 : decode cX9_leave 24 = .ok (.bipush (-2), 2) := by decide +kernel
theorem dX9_leave_26 : decode cX9_leave 26 = .ok (.ireturn, 1) := by decide +kernel
theorem dX9_leave_27 : decode cX9_leave 27 = .ok (.aload_n 0, 1) := by decide +kernel
theorem dX9_leave_28 : decode cX9_leave 28 = .ok (.invokevirtual 223, 3) := by decide +kernel
theorem dX9_leave_31 : decode cX9_leave 31 = .ok (.aload_n 0, 1) := by decide +kernel
theorem dX9_leave_32 : decode cX9_leave 32 = .ok (.getfield 62, 3) := by decide +kernel
theorem dX9_leave_35 : decode cX9_leave 35 = .ok (.bipush 8, 2) := by decide +kernel
theorem dX9_leave_37 : decode cX9_leave 37 = .ok (.iload_n 1, 1) := by decide +kernel
theorem dX9_leave_38 : decode cX9_leave 38 = .ok (.iadd, 1) := by decide +kernel
theorem dX9_leave_39 : decode cX9_leave 39 = .ok (.iaload, 1) := by decide +kernel
theorem dX9_leave_40 : decode cX9_leave 40 = .ok (.istore_n 2, 1) := by decide +kernel
theorem dX9_leave_41 : decode cX9_leave 41 = .ok (.aload_n 0, 1) := by decide +kernel
theorem dX9_leave_42 : decode cX9_leave 42 = .ok (.getfield 62, 3) := by decide +kernel
theorem dX9_leave_45 : decode cX9_leave 45 = .ok (.bipush 8, 2) := by decide +kernel
theorem dX9_leave_47 : decode cX9_leave 47 = .ok (.iload_n 1, 1) := by decide +kernel
theorem dX9_leave_48 : decode cX9_leave 48 = .ok (.iadd, 1) := by decide +kernel
theorem dX9_leave_49 : decode cX9_leave 49 = .ok (.bipush (-4), 2) := by decide +kernel
theorem dX9_leave_51 : decode cX9_leave 51 = .ok (.iastore, 1) := by decide +kernel
theorem dX9_leave_52 : decode cX9_leave 52 = .ok (.iload_n 2, 1) := by decide +kernel
theorem dX9_leave_53 : decode cX9_leave 53 = .ok (.ireturn, 1) := by decide +kernel
theorem dX9_undo_0 : decode cX9_undo 0 = .ok (.aload_n 0, 1) := by decide +kernel
theorem dX9_undo_1 : decode cX9_undo 1 = .ok (.getfield 143, 3) := by decide +kernel
theorem dX9_undo_4 : decode cX9_undo 4 = .ok (.ifCond .ne 6, 3) := by decide +kernel
theorem dX9_undo_7 : decode cX9_undo 7 = .ok (.bipush (-2), 2) := by decide +kernel
theorem dX9_undo_9 : decode cX9_undo 9 = .ok (.ireturn, 1) := by decide +kernel
theorem dX9_undo_10 : decode cX9_undo 10 = .ok (.aload_n 0, 1) := by decide +kernel
theorem dX9_undo_11 : decode cX9_undo 11 = .ok (.dup, 1) := by decide +kernel
theorem dX9_undo_12 : decode cX9_undo 12 = .ok (.getfield 143, 3) := by decide +kernel
theorem dX9_undo_15 : decode cX9_undo 15 = .ok (.iconst 1, 1) := by decide +kernel
theorem dX9_undo_16 : decode cX9_undo 16 = .ok (.isub, 1) := by decide +kernel
theorem dX9_undo_17 : decode cX9_undo 17 = .ok (.putfield 143, 3) := by decide +kernel
theorem dX9_undo_20 : decode cX9_undo 20 = .ok (.aload_n 0, 1) := by decide +kernel
theorem dX9_undo_21 : decode cX9_undo 21 = .ok (.bipush 16, 2) := by decide +kernel
theorem dX9_undo_23 : decode cX9_undo 23 = .ok (.bipush 16, 2) := by decide +kernel
theorem dX9_undo_25 : decode cX9_undo 25 = .ok (.aload_n 0, 1) := by decide +kernel
theorem dX9_undo_26 : decode cX9_undo 26 = .ok (.getfield 143, 3) := by decide +kernel
theorem dX9_undo_29 : decode cX9_undo 29 = .ok (.imul, 1) := by decide +kernel
theorem dX9_undo_30 : decode cX9_undo 30 = .ok (.iadd, 1) := by decide +kernel
theorem dX9_undo_31 : decode cX9_undo 31 = .ok (.iconst 0, 1) := by decide +kernel
theorem dX9_undo_32 : decode cX9_undo 32 = .ok (.invokevirtual 220, 3) := by decide +kernel
theorem dX9_undo_35 : decode cX9_undo 35 = .ok (.aload_n 0, 1) := by decide +kernel
theorem dX9_undo_36 : decode cX9_undo 36 = .ok (.getfield 143, 3) := by decide +kernel
theorem dX9_undo_39 : decode cX9_undo 39 = .ok (.ireturn, 1) := by decide +kernel
theorem dX9_rankTried_0 : decode cX9_rankTried 0 = .ok (.aload_n 0, 1) := by decide +kernel
theorem dX9_rankTried_1 : decode cX9_rankTried 1 = .ok (.invokevirtual 196, 3) := by decide +kernel
theorem dX9_rankTried_4 : decode cX9_rankTried 4 = .ok (.aload_n 0, 1) := by decide +kernel
theorem dX9_rankTried_5 : decode cX9_rankTried 5 = .ok (.sipush 176, 3) := by decide +kernel
theorem dX9_rankTried_8 : decode cX9_rankTried 8 = .ok (.sipush 200, 3) := by decide +kernel
theorem dX9_rankTried_11 : decode cX9_rankTried 11 = .ok (.invokevirtual 199, 3) := by decide +kernel
theorem dX9_rankTried_14 : decode cX9_rankTried 14 = .ok (.aload_n 0, 1) := by decide +kernel
theorem dX9_rankTried_15 : decode cX9_rankTried 15 = .ok (.sipush 176, 3) := by decide +kernel
theorem dX9_rankTried_18 : decode cX9_rankTried 18 = .ok (.iload_n 1, 1) := by decide +kernel
theorem dX9_rankTried_19 : decode cX9_rankTried 19 = .ok (.invokevirtual 213, 3) := by decide +kernel
theorem dX9_rankTried_22 : decode cX9_rankTried 22 = .ok (.ireturn, 1) := by decide +kernel
theorem dX9_late_0 : decode cX9_late 0 = .ok (.aload_n 0, 1) := by decide +kernel
theorem dX9_late_1 : decode cX9_late 1 = .ok (.iload_n 1, 1) := by decide +kernel
theorem dX9_late_2 : decode cX9_late 2 = .ok (.invokevirtual 152, 3) := by decide +kernel
theorem dX9_late_5 : decode cX9_late 5 = .ok (.ifCond .ne 5, 3) := by decide +kernel
theorem dX9_late_8 : decode cX9_late 8 = .ok (.iconst (-1), 1) := by decide +kernel
theorem dX9_late_9 : decode cX9_late 9 = .ok (.ireturn, 1) := by decide +kernel
theorem dX9_late_10 : decode cX9_late 10 = .ok (.aload_n 0, 1) := by decide +kernel
theorem dX9_late_11 : decode cX9_late 11 = .ok (.iconst 0, 1) := by decide +kernel
theorem dX9_late_12 : decode cX9_late 12 = .ok (.sipush 176, 3) := by decide +kernel
theorem dX9_late_15 : decode cX9_late 15 = .ok (.invokevirtual 220, 3) := by decide +kernel
theorem dX9_late_18 : decode cX9_late 18 = .ok (.aload_n 0, 1) := by decide +kernel
theorem dX9_late_19 : decode cX9_late 19 = .ok (.iload_n 1, 1) := by decide +kernel
theorem dX9_late_20 : decode cX9_late 20 = .ok (.invokevirtual 229, 3) := by decide +kernel
theorem dX9_late_23 : decode cX9_late 23 = .ok (.istore_n 2, 1) := by decide +kernel
theorem dX9_late_24 : decode cX9_late 24 = .ok (.bipush 30, 2) := by decide +kernel
theorem dX9_late_26 : decode cX9_late 26 = .ok (.istore_n 3, 1) := by decide +kernel
theorem dX9_late_27 : decode cX9_late 27 = .ok (.iload_n 3, 1) := by decide +kernel
theorem dX9_late_28 : decode cX9_late 28 = .ok (.ifCond .lt 31, 3) := by decide +kernel
theorem dX9_late_31 : decode cX9_late 31 = .ok (.aload_n 0, 1) := by decide +kernel
theorem dX9_late_32 : decode cX9_late 32 = .ok (.getfield 62, 3) := by decide +kernel
theorem dX9_late_35 : decode cX9_late 35 = .ok (.sipush 176, 3) := by decide +kernel
theorem dX9_late_38 : decode cX9_late 38 = .ok (.iload_n 1, 1) := by decide +kernel
theorem dX9_late_39 : decode cX9_late 39 = .ok (.iadd, 1) := by decide +kernel
theorem dX9_late_40 : decode cX9_late 40 = .ok (.iload_n 3, 1) := by decide +kernel
theorem dX9_late_41 : decode cX9_late 41 = .ok (.iastore, 1) := by decide +kernel
theorem dX9_late_42 : decode cX9_late 42 = .ok (.aload_n 0, 1) := by decide +kernel
theorem dX9_late_43 : decode cX9_late 43 = .ok (.iload_n 1, 1) := by decide +kernel
theorem dX9_late_44 : decode cX9_late 44 = .ok (.invokevirtual 229, 3) := by decide +kernel
theorem dX9_late_47 : decode cX9_late 47 = .ok (.iload_n 2, 1) := by decide +kernel
theorem dX9_late_48 : decode cX9_late 48 = .ok (.if_icmp .gt 5, 3) := by decide +kernel
theorem dX9_late_51 : decode cX9_late 51 = .ok (.iload_n 3, 1) := by decide +kernel
theorem dX9_late_52 : decode cX9_late 52 = .ok (.ireturn, 1) := by decide +kernel
theorem dX9_late_53 : decode cX9_late 53 = .ok (.iinc 3 (-1), 3) := by decide +kernel
theorem dX9_late_56 : decode cX9_late 56 = .ok (.goto (-29), 3) := by decide +kernel
theorem dX9_late_59 : decode cX9_late 59 = .ok (.bipush (-4), 2) := by decide +kernel
theorem dX9_late_61 : decode cX9_late 61 = .ok (.ireturn, 1) := by decide +kernel
theorem dX9_back_0 : decode cX9_back 0 = .ok (.aload_n 0, 1) := by decide +kernel
theorem dX9_back_1 : decode cX9_back 1 = .ok (.iload_n 1, 1) := by decide +kernel
theorem dX9_back_2 : decode cX9_back 2 = .ok (.invokevirtual 152, 3) := by decide +kernel
theorem dX9_back_5 : decode cX9_back 5 = .ok (.ifCond .eq 12, 3) := by decide +kernel
theorem dX9_back_8 : decode cX9_back 8 = .ok (.iload_n 2, 1) := by decide +kernel
theorem dX9_back_9 : decode cX9_back 9 = .ok (.iconst 0, 1) := by decide +kernel
theorem dX9_back_10 : decode cX9_back 10 = .ok (.iconst 1, 1) := by decide +kernel
theorem dX9_back_11 : decode cX9_back 11 = .ok (.invokestatic 93, 3) := by decide +kernel
theorem dX9_back_14 : decode cX9_back 14 = .ok (.ifCond .ne 5, 3) := by decide +kernel
theorem dX9_back_17 : decode cX9_back 17 = .ok (.iconst (-1), 1) := by decide +kernel
theorem dX9_back_18 : decode cX9_back 18 = .ok (.ireturn, 1) := by decide +kernel
theorem dX9_back_19 : decode cX9_back 19 = .ok (.aload_n 0, 1) := by decide +kernel
theorem dX9_back_20 : decode cX9_back 20 = .ok (.iload_n 1, 1) := by decide +kernel
theorem dX9_back_21 : decode cX9_back 21 = .ok (.invokevirtual 226, 3) := by decide +kernel
theorem dX9_back_24 : decode cX9_back 24 = .ok (.ifCond .ne 13, 3) := by decide +kernel
theorem dX9_back_27 : decode cX9_back 27 = .ok (.aload_n 0, 1) := by decide +kernel
theorem dX9_back_28 : decode cX9_back 28 = .ok (.iload_n 1, 1) := by decide +kernel
theorem dX9_back_29 : decode cX9_back 29 = .ok (.invokevirtual 156, 3) := by decide +kernel
theorem dX9_back_32 : decode cX9_back 32 = .ok (.bipush (-4), 2) := by decide +kernel
theorem dX9_back_34 : decode cX9_back 34 = .ok (.if_icmp .eq 6, 3) := by decide +kernel
theorem dX9_back_37 : decode cX9_back 37 = .ok (.bipush (-2), 2) := by decide +kernel
theorem dX9_back_39 : decode cX9_back 39 = .ok (.ireturn, 1) := by decide +kernel
theorem dX9_back_40 : decode cX9_back 40 = .ok (.aload_n 0, 1) := by decide +kernel
theorem dX9_back_41 : decode cX9_back 41 = .ok (.iconst 0, 1) := by decide +kernel
theorem dX9_back_42 : decode cX9_back 42 = .ok (.sipush 176, 3) := by decide +kernel
theorem dX9_back_45 : decode cX9_back 45 = .ok (.invokevirtual 220, 3) := by decide +kernel
theorem dX9_back_48 : decode cX9_back 48 = .ok (.aload_n 0, 1) := by decide +kernel
theorem dX9_back_49 : decode cX9_back 49 = .ok (.getfield 62, 3) := by decide +kernel
theorem dX9_back_52 : decode cX9_back 52 = .ok (.sipush 184, 3) := by decide +kernel
theorem dX9_back_55 : decode cX9_back 55 = .ok (.iload_n 1, 1) := by decide +kernel
theorem dX9_back_56 : decode cX9_back 56 = .ok (.iadd, 1) := by decide +kernel
theorem dX9_back_57 : decode cX9_back 57 = .ok (.bipush (-4), 2) := by decide +kernel
theorem dX9_back_59 : decode cX9_back 59 = .ok (.iastore, 1) := by decide +kernel
theorem dX9_back_60 : decode cX9_back 60 = .ok (.aload_n 0, 1) := by decide +kernel
theorem dX9_back_61 : decode cX9_back 61 = .ok (.iload_n 1, 1) := by decide +kernel
theorem dX9_back_62 : decode cX9_back 62 = .ok (.invokevirtual 229, 3) := by decide +kernel
theorem dX9_back_65 : decode cX9_back 65 = .ok (.istore_n 3, 1) := by decide +kernel
theorem dX9_back_66 : decode cX9_back 66 = .ok (.bipush (-4), 2) := by decide +kernel
theorem dX9_back_68 : decode cX9_back 68 = .ok (.istore 4, 2) := by decide +kernel
theorem dX9_back_70 : decode cX9_back 70 = .ok (.iconst 0, 1) := by decide +kernel
theorem dX9_back_71 : decode cX9_back 71 = .ok (.istore 5, 2) := by decide +kernel
theorem dX9_back_73 : decode cX9_back 73 = .ok (.iload 5, 2) := by decide +kernel
theorem dX9_back_75 : decode cX9_back 75 = .ok (.aload_n 0, 1) := by decide +kernel
theorem dX9_back_76 : decode cX9_back 76 = .ok (.getfield 13, 3) := by decide +kernel
theorem dX9_back_79 : decode cX9_back 79 = .ok (.iconst 0, 1) := by decide +kernel
theorem dX9_back_80 : decode cX9_back 80 = .ok (.iaload, 1) := by decide +kernel
theorem dX9_back_81 : decode cX9_back 81 = .ok (.if_icmp .ge 77, 3) := by decide +kernel
theorem dX9_back_84 : decode cX9_back 84 = .ok (.iload 5, 2) := by decide +kernel
theorem dX9_back_86 : decode cX9_back 86 = .ok (.iload_n 1, 1) := by decide +kernel
theorem dX9_back_87 : decode cX9_back 87 = .ok (.if_icmp .eq 65, 3) := by decide +kernel
theorem dX9_back_90 : decode cX9_back 90 = .ok (.aload_n 0, 1) := by decide +kernel
theorem dX9_back_91 : decode cX9_back 91 = .ok (.getfield 62, 3) := by decide +kernel
theorem dX9_back_94 : decode cX9_back 94 = .ok (.bipush 8, 2) := by decide +kernel
theorem dX9_back_96 : decode cX9_back 96 = .ok (.iload 5, 2) := by decide +kernel
theorem dX9_back_98 : decode cX9_back 98 = .ok (.iadd, 1) := by decide +kernel
theorem dX9_back_99 : decode cX9_back 99 = .ok (.iaload, 1) := by decide +kernel
theorem dX9_back_100 : decode cX9_back 100 = .ok (.bipush (-4), 2) := by decide +kernel
theorem dX9_back_102 : decode cX9_back 102 = .ok (.if_icmp .ne 50, 3) := by decide +kernel
theorem dX9_back_105 : decode cX9_back 105 = .ok (.aload_n 0, 1) := by decide +kernel
theorem dX9_back_106 : decode cX9_back 106 = .ok (.getfield 62, 3) := by decide +kernel
theorem dX9_back_109 : decode cX9_back 109 = .ok (.sipush 184, 3) := by decide +kernel
theorem dX9_back_112 : decode cX9_back 112 = .ok (.iload_n 1, 1) := by decide +kernel
theorem dX9_back_113 : decode cX9_back 113 = .ok (.iadd, 1) := by decide +kernel
theorem dX9_back_114 : decode cX9_back 114 = .ok (.iload 5, 2) := by decide +kernel
theorem dX9_back_116 : decode cX9_back 116 = .ok (.iastore, 1) := by decide +kernel
theorem dX9_back_117 : decode cX9_back 117 = .ok (.aload_n 0, 1) := by decide +kernel
theorem dX9_back_118 : decode cX9_back 118 = .ok (.iload_n 1, 1) := by decide +kernel
theorem dX9_back_119 : decode cX9_back 119 = .ok (.invokevirtual 229, 3) := by decide +kernel
theorem dX9_back_122 : decode cX9_back 122 = .ok (.istore 6, 2) := by decide +kernel
theorem dX9_back_124 : decode cX9_back 124 = .ok (.iload 6, 2) := by decide +kernel
theorem dX9_back_126 : decode cX9_back 126 = .ok (.iload_n 3, 1) := by decide +kernel
theorem dX9_back_127 : decode cX9_back 127 = .ok (.if_icmp .ge 8, 3) := by decide +kernel
theorem dX9_back_130 : decode cX9_back 130 = .ok (.iload 5, 2) := by decide +kernel
theorem dX9_back_132 : decode cX9_back 132 = .ok (.goto 5, 3) := by decide +kernel
theorem dX9_back_135 : decode cX9_back 135 = .ok (.iload 4, 2) := by decide +kernel
theorem dX9_back_137 : decode cX9_back 137 = .ok (.istore 4, 2) := by decide +kernel
theorem dX9_back_139 : decode cX9_back 139 = .ok (.iload 6, 2) := by decide +kernel
theorem dX9_back_141 : decode cX9_back 141 = .ok (.iload_n 3, 1) := by decide +kernel
theorem dX9_back_142 : decode cX9_back 142 = .ok (.if_icmp .ge 8, 3) := by decide +kernel
theorem dX9_back_145 : decode cX9_back 145 = .ok (.iload 6, 2) := by decide +kernel
theorem dX9_back_147 : decode cX9_back 147 = .ok (.goto 4, 3) := by decide +kernel
theorem dX9_back_150 : decode cX9_back 150 = .ok (.iload_n 3, 1) := by decide +kernel
theorem dX9_back_151 : decode cX9_back 151 = .ok (.istore_n 3, 1) := by decide +kernel
theorem dX9_back_152 : decode cX9_back 152 = .ok (.iinc 5 1, 3) := by decide +kernel
theorem dX9_back_155 : decode cX9_back 155 = .ok (.goto (-82), 3) := by decide +kernel
theorem dX9_back_158 : decode cX9_back 158 = .ok (.iload_n 2, 1) := by decide +kernel
theorem dX9_back_159 : decode cX9_back 159 = .ok (.ifCond .ne 8, 3) := by decide +kernel
theorem dX9_back_162 : decode cX9_back 162 = .ok (.iload 4, 2) := by decide +kernel
theorem dX9_back_164 : decode cX9_back 164 = .ok (.goto 4, 3) := by decide +kernel
theorem dX9_back_167 : decode cX9_back 167 = .ok (.iload_n 3, 1) := by decide +kernel
theorem dX9_back_168 : decode cX9_back 168 = .ok (.ireturn, 1) := by decide +kernel
theorem dX9_twos_0 : decode cX9_twos 0 = .ok (.iconst 0, 1) := by decide +kernel
theorem dX9_twos_1 : decode cX9_twos 1 = .ok (.istore_n 1, 1) := by decide +kernel
theorem dX9_twos_2 : decode cX9_twos 2 = .ok (.iload_n 1, 1) := by decide +kernel
theorem dX9_twos_3 : decode cX9_twos 3 = .ok (.sipush 256, 3) := by decide +kernel
theorem dX9_twos_6 : decode cX9_twos 6 = .ok (.if_icmp .ge 25, 3) := by decide +kernel
theorem dX9_twos_9 : decode cX9_twos 9 = .ok (.aload_n 0, 1) := by decide +kernel
theorem dX9_twos_10 : decode cX9_twos 10 = .ok (.getfield 74, 3) := by decide +kernel
theorem dX9_twos_13 : decode cX9_twos 13 = .ok (.iload_n 1, 1) := by decide +kernel
theorem dX9_twos_14 : decode cX9_twos 14 = .ok (.iload_n 1, 1) := by decide +kernel
theorem dX9_twos_15 : decode cX9_twos 15 = .ok (.ifCond .ne 7, 3) := by decide +kernel
theorem dX9_twos_18 : decode cX9_twos 18 = .ok (.iconst 0, 1) := by decide +kernel
theorem dX9_twos_19 : decode cX9_twos 19 = .ok (.goto 5, 3) := by decide +kernel
theorem dX9_twos_22 : decode cX9_twos 22 = .ok (.bipush (-4), 2) := by decide +kernel
theorem dX9_twos_24 : decode cX9_twos 24 = .ok (.iastore, 1) := by decide +kernel
theorem dX9_twos_25 : decode cX9_twos 25 = .ok (.iinc 1 1, 3) := by decide +kernel
theorem dX9_twos_28 : decode cX9_twos 28 = .ok (.goto (-26), 3) := by decide +kernel
theorem dX9_twos_31 : decode cX9_twos 31 = .ok (.iconst 0, 1) := by decide +kernel
theorem dX9_twos_32 : decode cX9_twos 32 = .ok (.istore_n 1, 1) := by decide +kernel
theorem dX9_twos_33 : decode cX9_twos 33 = .ok (.iload_n 1, 1) := by decide +kernel
theorem dX9_twos_34 : decode cX9_twos 34 = .ok (.aload_n 0, 1) := by decide +kernel
theorem dX9_twos_35 : decode cX9_twos 35 = .ok (.getfield 13, 3) := by decide +kernel
theorem dX9_twos_38 : decode cX9_twos 38 = .ok (.iconst 0, 1) := by decide +kernel
theorem dX9_twos_39 : decode cX9_twos 39 = .ok (.iaload, 1) := by decide +kernel
theorem dX9_twos_40 : decode cX9_twos 40 = .ok (.if_icmp .ge 177, 3) := by decide +kernel
theorem dX9_twos_43 : decode cX9_twos 43 = .ok (.aload_n 0, 1) := by decide +kernel
theorem dX9_twos_44 : decode cX9_twos 44 = .ok (.getfield 23, 3) := by decide +kernel
theorem dX9_twos_47 : decode cX9_twos 47 = .ok (.iload_n 1, 1) := by decide +kernel
theorem dX9_twos_48 : decode cX9_twos 48 = .ok (.iaload, 1) := by decide +kernel
theorem dX9_twos_49 : decode cX9_twos 49 = .ok (.iconst 1, 1) := by decide +kernel
theorem dX9_twos_50 : decode cX9_twos 50 = .ok (.if_icmp .ne 161, 3) := by decide +kernel
theorem dX9_twos_53 : decode cX9_twos 53 = .ok (.aload_n 0, 1) := by decide +kernel
theorem dX9_twos_54 : decode cX9_twos 54 = .ok (.iload_n 1, 1) := by decide +kernel
theorem dX9_twos_55 : decode cX9_twos 55 = .ok (.invokevirtual 156, 3) := by decide +kernel
theorem dX9_twos_58 : decode cX9_twos 58 = .ok (.bipush (-4), 2) := by decide +kernel
theorem dX9_twos_60 : decode cX9_twos 60 = .ok (.if_icmp .ne 151, 3) := by decide +kernel
theorem dX9_twos_63 : decode cX9_twos 63 = .ok (.sipush 255, 3) := by decide +kernel
theorem dX9_twos_66 : decode cX9_twos 66 = .ok (.istore_n 2, 1) := by decide +kernel
theorem dX9_twos_67 : decode cX9_twos 67 = .ok (.iload_n 2, 1) := by decide +kernel
theorem dX9_twos_68 : decode cX9_twos 68 = .ok (.ifCond .lt 143, 3) := by decide +kernel
theorem dX9_twos_71 : decode cX9_twos 71 = .ok (.iconst 0, 1) := by decide +kernel
theorem dX9_twos_72 : decode cX9_twos 72 = .ok (.istore_n 3, 1) := by decide +kernel
theorem dX9_twos_73 : decode cX9_twos 73 = .ok (.iload_n 3, 1) := by decide +kernel
theorem dX9_twos_74 : decode cX9_twos 74 = .ok (.aload_n 0, 1) := by decide +kernel
theorem dX9_twos_75 : decode cX9_twos 75 = .ok (.getfield 13, 3) := by decide +kernel
theorem dX9_twos_78 : decode cX9_twos 78 = .ok (.iconst 0, 1) := by decide +kernel
theorem dX9_twos_79 : decode cX9_twos 79 = .ok (.iaload, 1) := by decide +kernel
theorem dX9_twos_80 : decode cX9_twos 80 = .ok (.if_icmp .ge 125, 3) := by decide +kernel
theorem dX9_twos_83 : decode cX9_twos 83 = .ok (.aload_n 0, 1) := by decide +kernel
theorem dX9_twos_84 : decode cX9_twos 84 = .ok (.getfield 74, 3) := by decide +kernel
theorem dX9_twos_87 : decode cX9_twos 87 = .ok (.iload_n 2, 1) := by decide +kernel
theorem dX9_twos_88 : decode cX9_twos 88 = .ok (.iaload, 1) := by decide +kernel
theorem dX9_twos_89 : decode cX9_twos 89 = .ok (.bipush (-4), 2) := by decide +kernel
theorem dX9_twos_91 : decode cX9_twos 91 = .ok (.if_icmp .eq 114, 3) := by decide +kernel
theorem dX9_twos_94 : decode cX9_twos 94 = .ok (.aload_n 0, 1) := by decide +kernel
theorem dX9_twos_95 : decode cX9_twos 95 = .ok (.getfield 23, 3) := by decide +kernel
theorem dX9_twos_98 : decode cX9_twos 98 = .ok (.iload_n 3, 1) := by decide +kernel
theorem dX9_twos_99 : decode cX9_twos 99 = .ok (.iaload, 1) := by decide +kernel
theorem dX9_twos_100 : decode cX9_twos 100 = .ok (.iconst 1, 1) := by decide +kernel
theorem dX9_twos_101 : decode cX9_twos 101 = .ok (.if_icmp .eq 40, 3) := by decide +kernel
theorem dX9_twos_104 : decode cX9_twos 104 = .ok (.aload_n 0, 1) := by decide +kernel
theorem dX9_twos_105 : decode cX9_twos 105 = .ok (.iload_n 3, 1) := by decide +kernel
theorem dX9_twos_106 : decode cX9_twos 106 = .ok (.invokevirtual 156, 3) := by decide +kernel
theorem dX9_twos_109 : decode cX9_twos 109 = .ok (.bipush (-4), 2) := by decide +kernel
theorem dX9_twos_111 : decode cX9_twos 111 = .ok (.if_icmp .ne 30, 3) := by decide +kernel
theorem dX9_twos_114 : decode cX9_twos 114 = .ok (.aload_n 0, 1) := by decide +kernel
theorem dX9_twos_115 : decode cX9_twos 115 = .ok (.getfield 20, 3) := by decide +kernel
theorem dX9_twos_118 : decode cX9_twos 118 = .ok (.iload_n 3, 1) := by decide +kernel
theorem dX9_twos_119 : decode cX9_twos 119 = .ok (.iaload, 1) := by decide +kernel
theorem dX9_twos_120 : decode cX9_twos 120 = .ok (.aload_n 0, 1) := by decide +kernel
theorem dX9_twos_121 : decode cX9_twos 121 = .ok (.getfield 20, 3) := by decide +kernel
theorem dX9_twos_124 : decode cX9_twos 124 = .ok (.iload_n 1, 1) := by decide +kernel
theorem dX9_twos_125 : decode cX9_twos 125 = .ok (.iaload, 1) := by decide +kernel
theorem dX9_twos_126 : decode cX9_twos 126 = .ok (.if_icmp .le 15, 3) := by decide +kernel
theorem dX9_twos_129 : decode cX9_twos 129 = .ok (.iload_n 2, 1) := by decide +kernel
theorem dX9_twos_130 : decode cX9_twos 130 = .ok (.iload_n 3, 1) := by decide +kernel
theorem dX9_twos_131 : decode cX9_twos 131 = .ok (.ishr, 1) := by decide +kernel
theorem dX9_twos_132 : decode cX9_twos 132 = .ok (.iconst 1, 1) := by decide +kernel
theorem dX9_twos_133 : decode cX9_twos 133 = .ok (.iand, 1) := by decide +kernel
theorem dX9_twos_134 : decode cX9_twos 134 = .ok (.ifCond .ne 7, 3) := by decide +kernel
theorem dX9_twos_137 : decode cX9_twos 137 = .ok (.iconst 1, 1) := by decide +kernel
theorem dX9_twos_138 : decode cX9_twos 138 = .ok (.goto 4, 3) := by decide +kernel
theorem dX9_twos_141 : decode cX9_twos 141 = .ok (.iconst 0, 1) := by decide +kernel
theorem dX9_twos_142 : decode cX9_twos 142 = .ok (.istore 4, 2) := by decide +kernel
theorem dX9_twos_144 : decode cX9_twos 144 = .ok (.iload_n 2, 1) := by decide +kernel
theorem dX9_twos_145 : decode cX9_twos 145 = .ok (.iconst 1, 1) := by decide +kernel
theorem dX9_twos_146 : decode cX9_twos 146 = .ok (.iload_n 3, 1) := by decide +kernel
theorem dX9_twos_147 : decode cX9_twos 147 = .ok (.ishl, 1) := by decide +kernel
theorem dX9_twos_148 : decode cX9_twos 148 = .ok (.ior, 1) := by decide +kernel
theorem dX9_twos_149 : decode cX9_twos 149 = .ok (.istore 5, 2) := by decide +kernel
theorem dX9_twos_151 : decode cX9_twos 151 = .ok (.aload_n 0, 1) := by decide +kernel
theorem dX9_twos_152 : decode cX9_twos 152 = .ok (.getfield 74, 3) := by decide +kernel
theorem dX9_twos_155 : decode cX9_twos 155 = .ok (.iload 5, 2) := by decide +kernel
theorem dX9_twos_157 : decode cX9_twos 157 = .ok (.iload 4, 2) := by decide +kernel
theorem dX9_twos_159 : decode cX9_twos 159 = .ok (.ifCond .eq 32, 3) := by decide +kernel
theorem dX9_twos_162 : decode cX9_twos 162 = .ok (.aload_n 0, 1) := by decide +kernel
theorem dX9_twos_163 : decode cX9_twos 163 = .ok (.getfield 74, 3) := by decide +kernel
theorem dX9_twos_166 : decode cX9_twos 166 = .ok (.iload 5, 2) := by decide +kernel
theorem dX9_twos_168 : decode cX9_twos 168 = .ok (.iaload, 1) := by decide +kernel
theorem dX9_twos_169 : decode cX9_twos 169 = .ok (.aload_n 0, 1) := by decide +kernel
theorem dX9_twos_170 : decode cX9_twos 170 = .ok (.getfield 74, 3) := by decide +kernel
theorem dX9_twos_173 : decode cX9_twos 173 = .ok (.iload_n 2, 1) := by decide +kernel
theorem dX9_twos_174 : decode cX9_twos 174 = .ok (.iaload, 1) := by decide +kernel
theorem dX9_twos_175 : decode cX9_twos 175 = .ok (.iconst 1, 1) := by decide +kernel
theorem dX9_twos_176 : decode cX9_twos 176 = .ok (.iadd, 1) := by decide +kernel
theorem dX9_twos_177 : decode cX9_twos 177 = .ok (.if_icmp .ge 14, 3) := by decide +kernel
theorem dX9_twos_180 : decode cX9_twos 180 = .ok (.aload_n 0, 1) := by decide +kernel
theorem dX9_twos_181 : decode cX9_twos 181 = .ok (.getfield 74, 3) := by decide +kernel
theorem dX9_twos_184 : decode cX9_twos 184 = .ok (.iload_n 2, 1) := by decide +kernel
theorem dX9_twos_185 : decode cX9_twos 185 = .ok (.iaload, 1) := by decide +kernel
theorem dX9_twos_186 : decode cX9_twos 186 = .ok (.iconst 1, 1) := by decide +kernel
theorem dX9_twos_187 : decode cX9_twos 187 = .ok (.iadd, 1) := by decide +kernel
theorem dX9_twos_188 : decode cX9_twos 188 = .ok (.goto 10, 3) := by decide +kernel
theorem dX9_twos_191 : decode cX9_twos 191 = .ok (.aload_n 0, 1) := by decide +kernel
theorem dX9_twos_192 : decode cX9_twos 192 = .ok (.getfield 74, 3) := by decide +kernel
theorem dX9_twos_195 : decode cX9_twos 195 = .ok (.iload 5, 2) := by decide +kernel
theorem dX9_twos_197 : decode cX9_twos 197 = .ok (.iaload, 1) := by decide +kernel
theorem dX9_twos_198 : decode cX9_twos 198 = .ok (.iastore, 1) := by decide +kernel
theorem dX9_twos_199 : decode cX9_twos 199 = .ok (.iinc 3 1, 3) := by decide +kernel
theorem dX9_twos_202 : decode cX9_twos 202 = .ok (.goto (-129), 3) := by decide +kernel
theorem dX9_twos_205 : decode cX9_twos 205 = .ok (.iinc 2 (-1), 3) := by decide +kernel
theorem dX9_twos_208 : decode cX9_twos 208 = .ok (.goto (-141), 3) := by decide +kernel
theorem dX9_twos_211 : decode cX9_twos 211 = .ok (.iinc 1 1, 3) := by decide +kernel
theorem dX9_twos_214 : decode cX9_twos 214 = .ok (.goto (-181), 3) := by decide +kernel
theorem dX9_twos_217 : decode cX9_twos 217 = .ok (.iconst 0, 1) := by decide +kernel
theorem dX9_twos_218 : decode cX9_twos 218 = .ok (.istore_n 1, 1) := by decide +kernel
theorem dX9_twos_219 : decode cX9_twos 219 = .ok (.iconst 0, 1) := by decide +kernel
theorem dX9_twos_220 : decode cX9_twos 220 = .ok (.istore_n 2, 1) := by decide +kernel
theorem dX9_twos_221 : decode cX9_twos 221 = .ok (.iload_n 2, 1) := by decide +kernel
theorem dX9_twos_222 : decode cX9_twos 222 = .ok (.sipush 256, 3) := by decide +kernel
theorem dX9_twos_225 : decode cX9_twos 225 = .ok (.if_icmp .ge 30, 3) := by decide +kernel
theorem dX9_twos_228 : decode cX9_twos 228 = .ok (.aload_n 0, 1) := by decide +kernel
theorem dX9_twos_229 : decode cX9_twos 229 = .ok (.getfield 74, 3) := by decide +kernel
theorem dX9_twos_232 : decode cX9_twos 232 = .ok (.iload_n 2, 1) := by decide +kernel
theorem dX9_twos_233 : decode cX9_twos 233 = .ok (.iaload, 1) := by decide +kernel
theorem dX9_twos_234 : decode cX9_twos 234 = .ok (.iload_n 1, 1) := by decide +kernel
theorem dX9_twos_235 : decode cX9_twos 235 = .ok (.if_icmp .le 12, 3) := by decide +kernel
theorem dX9_twos_238 : decode cX9_twos 238 = .ok (.aload_n 0, 1) := by decide +kernel
theorem dX9_twos_239 : decode cX9_twos 239 = .ok (.getfield 74, 3) := by decide +kernel
theorem dX9_twos_242 : decode cX9_twos 242 = .ok (.iload_n 2, 1) := by decide +kernel
theorem dX9_twos_243 : decode cX9_twos 243 = .ok (.iaload, 1) := by decide +kernel
theorem dX9_twos_244 : decode cX9_twos 244 = .ok (.goto 4, 3) := by decide +kernel
theorem dX9_twos_247 : decode cX9_twos 247 = .ok (.iload_n 1, 1) := by decide +kernel
theorem dX9_twos_248 : decode cX9_twos 248 = .ok (.istore_n 1, 1) := by decide +kernel
theorem dX9_twos_249 : decode cX9_twos 249 = .ok (.iinc 2 1, 3) := by decide +kernel
theorem dX9_twos_252 : decode cX9_twos 252 = .ok (.goto (-31), 3) := by decide +kernel
theorem dX9_twos_255 : decode cX9_twos 255 = .ok (.iload_n 1, 1) := by decide +kernel
theorem dX9_twos_256 : decode cX9_twos 256 = .ok (.ireturn, 1) := by decide +kernel
theorem dX9_firstOne_0 : decode cX9_firstOne 0 = .ok (.aload_n 0, 1) := by decide +kernel
theorem dX9_firstOne_1 : decode cX9_firstOne 1 = .ok (.iload_n 1, 1) := by decide +kernel
theorem dX9_firstOne_2 : decode cX9_firstOne 2 = .ok (.invokevirtual 216, 3) := by decide +kernel
theorem dX9_firstOne_5 : decode cX9_firstOne 5 = .ok (.aload_n 0, 1) := by decide +kernel
theorem dX9_firstOne_6 : decode cX9_firstOne 6 = .ok (.getfield 71, 3) := by decide +kernel
theorem dX9_firstOne_9 : decode cX9_firstOne 9 = .ok (.iconst 0, 1) := by decide +kernel
theorem dX9_firstOne_10 : decode cX9_firstOne 10 = .ok (.iaload, 1) := by decide +kernel
theorem dX9_firstOne_11 : decode cX9_firstOne 11 = .ok (.ireturn, 1) := by decide +kernel
theorem dX9_bridge_0 : decode cX9_bridge 0 = .ok (.iload_n 1, 1) := by decide +kernel
theorem dX9_bridge_1 : decode cX9_bridge 1 = .ok (.iconst (-1), 1) := by decide +kernel
theorem dX9_bridge_2 : decode cX9_bridge 2 = .ok (.if_icmp .eq 13, 3) := by decide +kernel
theorem dX9_bridge_5 : decode cX9_bridge 5 = .ok (.aload_n 0, 1) := by decide +kernel
theorem dX9_bridge_6 : decode cX9_bridge 6 = .ok (.iload_n 1, 1) := by decide +kernel
theorem dX9_bridge_7 : decode cX9_bridge 7 = .ok (.invokevirtual 152, 3) := by decide +kernel
theorem dX9_bridge_10 : decode cX9_bridge 10 = .ok (.ifCond .ne 5, 3) := by decide +kernel
theorem dX9_bridge_13 : decode cX9_bridge 13 = .ok (.iconst (-1), 1) := by decide +kernel
theorem dX9_bridge_14 : decode cX9_bridge 14 = .ok (.ireturn, 1) := by decide +kernel
theorem dX9_bridge_15 : decode cX9_bridge 15 = .ok (.iconst 0, 1) := by decide +kernel
theorem dX9_bridge_16 : decode cX9_bridge 16 = .ok (.istore_n 2, 1) := by decide +kernel
theorem dX9_bridge_17 : decode cX9_bridge 17 = .ok (.iconst 0, 1) := by decide +kernel
theorem dX9_bridge_18 : decode cX9_bridge 18 = .ok (.istore_n 3, 1) := by decide +kernel
theorem dX9_bridge_19 : decode cX9_bridge 19 = .ok (.iconst 1, 1) := by decide +kernel
theorem dX9_bridge_20 : decode cX9_bridge 20 = .ok (.istore 4, 2) := by decide +kernel
theorem dX9_bridge_22 : decode cX9_bridge 22 = .ok (.iload 4, 2) := by decide +kernel
theorem dX9_bridge_24 : decode cX9_bridge 24 = .ok (.bipush 99, 2) := by decide +kernel
theorem dX9_bridge_26 : decode cX9_bridge 26 = .ok (.if_icmp .gt 55, 3) := by decide +kernel
theorem dX9_bridge_29 : decode cX9_bridge 29 = .ok (.aload_n 0, 1) := by decide +kernel
theorem dX9_bridge_30 : decode cX9_bridge 30 = .ok (.invokevirtual 196, 3) := by decide +kernel
theorem dX9_bridge_33 : decode cX9_bridge 33 = .ok (.aload_n 0, 1) := by decide +kernel
theorem dX9_bridge_34 : decode cX9_bridge 34 = .ok (.iload 4, 2) := by decide +kernel
theorem dX9_bridge_36 : decode cX9_bridge 36 = .ok (.putfield 193, 3) := by decide +kernel
theorem dX9_bridge_39 : decode cX9_bridge 39 = .ok (.aload_n 0, 1) := by decide +kernel
theorem dX9_bridge_40 : decode cX9_bridge 40 = .ok (.iconst 0, 1) := by decide +kernel
theorem dX9_bridge_41 : decode cX9_bridge 41 = .ok (.sipush 200, 3) := by decide +kernel
theorem dX9_bridge_44 : decode cX9_bridge 44 = .ok (.invokevirtual 199, 3) := by decide +kernel
theorem dX9_bridge_47 : decode cX9_bridge 47 = .ok (.aload_n 0, 1) := by decide +kernel
theorem dX9_bridge_48 : decode cX9_bridge 48 = .ok (.iconst 0, 1) := by decide +kernel
theorem dX9_bridge_49 : decode cX9_bridge 49 = .ok (.invokevirtual 232, 3) := by decide +kernel
theorem dX9_bridge_52 : decode cX9_bridge 52 = .ok (.istore 5, 2) := by decide +kernel
theorem dX9_bridge_54 : decode cX9_bridge 54 = .ok (.iload_n 2, 1) := by decide +kernel
theorem dX9_bridge_55 : decode cX9_bridge 55 = .ok (.iconst 1, 1) := by decide +kernel
theorem dX9_bridge_56 : decode cX9_bridge 56 = .ok (.iload 5, 2) := by decide +kernel
theorem dX9_bridge_58 : decode cX9_bridge 58 = .ok (.ishl, 1) := by decide +kernel
theorem dX9_bridge_59 : decode cX9_bridge 59 = .ok (.ior, 1) := by decide +kernel
theorem dX9_bridge_60 : decode cX9_bridge 60 = .ok (.istore_n 2, 1) := by decide +kernel
theorem dX9_bridge_61 : decode cX9_bridge 61 = .ok (.iload_n 3, 1) := by decide +kernel
theorem dX9_bridge_62 : decode cX9_bridge 62 = .ok (.iload 5, 2) := by decide +kernel
theorem dX9_bridge_64 : decode cX9_bridge 64 = .ok (.iload_n 1, 1) := by decide +kernel
theorem dX9_bridge_65 : decode cX9_bridge 65 = .ok (.if_icmp .ne 7, 3) := by decide +kernel
theorem dX9_bridge_68 : decode cX9_bridge 68 = .ok (.iconst 1, 1) := by decide +kernel
theorem dX9_bridge_69 : decode cX9_bridge 69 = .ok (.goto 4, 3) := by decide +kernel
theorem dX9_bridge_72 : decode cX9_bridge 72 = .ok (.iconst 0, 1) := by decide +kernel
theorem dX9_bridge_73 : decode cX9_bridge 73 = .ok (.iadd, 1) := by decide +kernel
theorem dX9_bridge_74 : decode cX9_bridge 74 = .ok (.istore_n 3, 1) := by decide +kernel
theorem dX9_bridge_75 : decode cX9_bridge 75 = .ok (.iinc 4 1, 3) := by decide +kernel
theorem dX9_bridge_78 : decode cX9_bridge 78 = .ok (.goto (-56), 3) := by decide +kernel
theorem dX9_bridge_81 : decode cX9_bridge 81 = .ok (.iload_n 1, 1) := by decide +kernel
theorem dX9_bridge_82 : decode cX9_bridge 82 = .ok (.iconst (-1), 1) := by decide +kernel
theorem dX9_bridge_83 : decode cX9_bridge 83 = .ok (.if_icmp .ne 7, 3) := by decide +kernel
theorem dX9_bridge_86 : decode cX9_bridge 86 = .ok (.iload_n 2, 1) := by decide +kernel
theorem dX9_bridge_87 : decode cX9_bridge 87 = .ok (.goto 4, 3) := by decide +kernel
theorem dX9_bridge_90 : decode cX9_bridge 90 = .ok (.iload_n 3, 1) := by decide +kernel
theorem dX9_bridge_91 : decode cX9_bridge 91 = .ok (.ireturn, 1) := by decide +kernel
theorem dX9_off_0 : decode cX9_off 0 = .ok (.iload_n 1, 1) := by decide +kernel
theorem dX9_off_1 : decode cX9_off 1 = .ok (.ifCond .ne 7, 3) := by decide +kernel
theorem dX9_off_4 : decode cX9_off 4 = .ok (.iconst 0, 1) := by decide +kernel
theorem dX9_off_5 : decode cX9_off 5 = .ok (.goto 17, 3) := by decide +kernel
theorem dX9_off_8 : decode cX9_off 8 = .ok (.iload_n 0, 1) := by decide +kernel
theorem dX9_off_9 : decode cX9_off 9 = .ok (.iload_n 1, 1) := by decide +kernel
theorem dX9_off_10 : decode cX9_off 10 = .ok (.if_icmp .ge 9, 3) := by decide +kernel
theorem dX9_off_13 : decode cX9_off 13 = .ok (.iload_n 1, 1) := by decide +kernel
theorem dX9_off_14 : decode cX9_off 14 = .ok (.iload_n 0, 1) := by decide +kernel
theorem dX9_off_15 : decode cX9_off 15 = .ok (.isub, 1) := by decide +kernel
theorem dX9_off_16 : decode cX9_off 16 = .ok (.goto 6, 3) := by decide +kernel
theorem dX9_off_19 : decode cX9_off 19 = .ok (.iload_n 0, 1) := by decide +kernel
theorem dX9_off_20 : decode cX9_off 20 = .ok (.iload_n 1, 1) := by decide +kernel
theorem dX9_off_21 : decode cX9_off 21 = .ok (.isub, 1) := by decide +kernel
theorem dX9_off_22 : decode cX9_off 22 = .ok (.ireturn, 1) := by decide +kernel
theorem dX9_calm_0 : decode cX9_calm 0 = .ok (.iload_n 1, 1) := by decide +kernel
theorem dX9_calm_1 : decode cX9_calm 1 = .ok (.iconst 0, 1) := by decide +kernel
theorem dX9_calm_2 : decode cX9_calm 2 = .ok (.iconst 1, 1) := by decide +kernel
theorem dX9_calm_3 : decode cX9_calm 3 = .ok (.invokestatic 93, 3) := by decide +kernel
theorem dX9_calm_6 : decode cX9_calm 6 = .ok (.ifCond .ne 5, 3) := by decide +kernel
theorem dX9_calm_9 : decode cX9_calm 9 = .ok (.iconst (-1), 1) := by decide +kernel
theorem dX9_calm_10 : decode cX9_calm 10 = .ok (.ireturn, 1) := by decide +kernel
theorem dX9_calm_11 : decode cX9_calm 11 = .ok (.aload_n 0, 1) := by decide +kernel
theorem dX9_calm_12 : decode cX9_calm 12 = .ok (.invokevirtual 203, 3) := by decide +kernel
theorem dX9_calm_15 : decode cX9_calm 15 = .ok (.iconst 0, 1) := by decide +kernel
theorem dX9_calm_16 : decode cX9_calm 16 = .ok (.istore_n 2, 1) := by decide +kernel
theorem dX9_calm_17 : decode cX9_calm 17 = .ok (.bipush (-4), 2) := by decide +kernel
theorem dX9_calm_19 : decode cX9_calm 19 = .ok (.istore_n 3, 1) := by decide +kernel
theorem dX9_calm_20 : decode cX9_calm 20 = .ok (.iconst 0, 1) := by decide +kernel
theorem dX9_calm_21 : decode cX9_calm 21 = .ok (.istore 4, 2) := by decide +kernel
theorem dX9_calm_23 : decode cX9_calm 23 = .ok (.iload 4, 2) := by decide +kernel
theorem dX9_calm_25 : decode cX9_calm 25 = .ok (.aload_n 0, 1) := by decide +kernel
theorem dX9_calm_26 : decode cX9_calm 26 = .ok (.getfield 13, 3) := by decide +kernel
theorem dX9_calm_29 : decode cX9_calm 29 = .ok (.iconst 0, 1) := by decide +kernel
theorem dX9_calm_30 : decode cX9_calm 30 = .ok (.iaload, 1) := by decide +kernel
theorem dX9_calm_31 : decode cX9_calm 31 = .ok (.if_icmp .ge 124, 3) := by decide +kernel
theorem dX9_calm_34 : decode cX9_calm 34 = .ok (.iload 4, 2) := by decide +kernel
theorem dX9_calm_36 : decode cX9_calm 36 = .ok (.iconst 1, 1) := by decide +kernel
theorem dX9_calm_37 : decode cX9_calm 37 = .ok (.iadd, 1) := by decide +kernel
theorem dX9_calm_38 : decode cX9_calm 38 = .ok (.istore 5, 2) := by decide +kernel
theorem dX9_calm_40 : decode cX9_calm 40 = .ok (.iload 5, 2) := by decide +kernel
theorem dX9_calm_42 : decode cX9_calm 42 = .ok (.aload_n 0, 1) := by decide +kernel
theorem dX9_calm_43 : decode cX9_calm 43 = .ok (.getfield 13, 3) := by decide +kernel
theorem dX9_calm_46 : decode cX9_calm 46 = .ok (.iconst 0, 1) := by decide +kernel
theorem dX9_calm_47 : decode cX9_calm 47 = .ok (.iaload, 1) := by decide +kernel
theorem dX9_calm_48 : decode cX9_calm 48 = .ok (.if_icmp .ge 101, 3) := by decide +kernel
theorem dX9_calm_51 : decode cX9_calm 51 = .ok (.aload_n 0, 1) := by decide +kernel
theorem dX9_calm_52 : decode cX9_calm 52 = .ok (.iconst 0, 1) := by decide +kernel
theorem dX9_calm_53 : decode cX9_calm 53 = .ok (.iload 4, 2) := by decide +kernel
theorem dX9_calm_55 : decode cX9_calm 55 = .ok (.invokevirtual 213, 3) := by decide +kernel
theorem dX9_calm_58 : decode cX9_calm 58 = .ok (.istore 6, 2) := by decide +kernel
theorem dX9_calm_60 : decode cX9_calm 60 = .ok (.aload_n 0, 1) := by decide +kernel
theorem dX9_calm_61 : decode cX9_calm 61 = .ok (.iconst 0, 1) := by decide +kernel
theorem dX9_calm_62 : decode cX9_calm 62 = .ok (.iload 5, 2) := by decide +kernel
theorem dX9_calm_64 : decode cX9_calm 64 = .ok (.invokevirtual 213, 3) := by decide +kernel
theorem dX9_calm_67 : decode cX9_calm 67 = .ok (.istore 7, 2) := by decide +kernel
theorem dX9_calm_69 : decode cX9_calm 69 = .ok (.iload 7, 2) := by decide +kernel
theorem dX9_calm_71 : decode cX9_calm 71 = .ok (.aload_n 0, 1) := by decide +kernel
theorem dX9_calm_72 : decode cX9_calm 72 = .ok (.getfield 56, 3) := by decide +kernel
theorem dX9_calm_75 : decode cX9_calm 75 = .ok (.iload 4, 2) := by decide +kernel
theorem dX9_calm_77 : decode cX9_calm 77 = .ok (.iaload, 1) := by decide +kernel
theorem dX9_calm_78 : decode cX9_calm 78 = .ok (.invokestatic 235, 3) := by decide +kernel
theorem dX9_calm_81 : decode cX9_calm 81 = .ok (.iload 6, 2) := by decide +kernel
theorem dX9_calm_83 : decode cX9_calm 83 = .ok (.aload_n 0, 1) := by decide +kernel
theorem dX9_calm_84 : decode cX9_calm 84 = .ok (.getfield 56, 3) := by decide +kernel
theorem dX9_calm_87 : decode cX9_calm 87 = .ok (.iload 4, 2) := by decide +kernel
theorem dX9_calm_89 : decode cX9_calm 89 = .ok (.iaload, 1) := by decide +kernel
theorem dX9_calm_90 : decode cX9_calm 90 = .ok (.invokestatic 235, 3) := by decide +kernel
theorem dX9_calm_93 : decode cX9_calm 93 = .ok (.if_icmp .ge 50, 3) := by decide +kernel
theorem dX9_calm_96 : decode cX9_calm 96 = .ok (.iload 6, 2) := by decide +kernel
theorem dX9_calm_98 : decode cX9_calm 98 = .ok (.aload_n 0, 1) := by decide +kernel
theorem dX9_calm_99 : decode cX9_calm 99 = .ok (.getfield 56, 3) := by decide +kernel
theorem dX9_calm_102 : decode cX9_calm 102 = .ok (.iload 5, 2) := by decide +kernel
theorem dX9_calm_104 : decode cX9_calm 104 = .ok (.iaload, 1) := by decide +kernel
theorem dX9_calm_105 : decode cX9_calm 105 = .ok (.invokestatic 235, 3) := by decide +kernel
theorem dX9_calm_108 : decode cX9_calm 108 = .ok (.iload 7, 2) := by decide +kernel
theorem dX9_calm_110 : decode cX9_calm 110 = .ok (.aload_n 0, 1) := by decide +kernel
theorem dX9_calm_111 : decode cX9_calm 111 = .ok (.getfield 56, 3) := by decide +kernel
theorem dX9_calm_114 : decode cX9_calm 114 = .ok (.iload 5, 2) := by decide +kernel
theorem dX9_calm_116 : decode cX9_calm 116 = .ok (.iaload, 1) := by decide +kernel
theorem dX9_calm_117 : decode cX9_calm 117 = .ok (.invokestatic 235, 3) := by decide +kernel
theorem dX9_calm_120 : decode cX9_calm 120 = .ok (.if_icmp .ge 23, 3) := by decide +kernel
theorem dX9_calm_123 : decode cX9_calm 123 = .ok (.iload_n 2, 1) := by decide +kernel
theorem dX9_calm_124 : decode cX9_calm 124 = .ok (.ifCond .ne 14, 3) := by decide +kernel
theorem dX9_calm_127 : decode cX9_calm 127 = .ok (.bipush 8, 2) := by decide +kernel
theorem dX9_calm_129 : decode cX9_calm 129 = .ok (.iload 4, 2) := by decide +kernel
theorem dX9_calm_131 : decode cX9_calm 131 = .ok (.imul, 1) := by decide +kernel
theorem dX9_calm_132 : decode cX9_calm 132 = .ok (.iload 5, 2) := by decide +kernel
theorem dX9_calm_134 : decode cX9_calm 134 = .ok (.iadd, 1) := by decide +kernel
theorem dX9_calm_135 : decode cX9_calm 135 = .ok (.goto 4, 3) := by decide +kernel
theorem dX9_calm_138 : decode cX9_calm 138 = .ok (.iload_n 3, 1) := by decide +kernel
theorem dX9_calm_139 : decode cX9_calm 139 = .ok (.istore_n 3, 1) := by decide +kernel
theorem dX9_calm_140 : decode cX9_calm 140 = .ok (.iinc 2 1, 3) := by decide +kernel
theorem dX9_calm_143 : decode cX9_calm 143 = .ok (.iinc 5 1, 3) := by decide +kernel
theorem dX9_calm_146 : decode cX9_calm 146 = .ok (.goto (-106), 3) := by decide +kernel
theorem dX9_calm_149 : decode cX9_calm 149 = .ok (.iinc 4 1, 3) := by decide +kernel
theorem dX9_calm_152 : decode cX9_calm 152 = .ok (.goto (-129), 3) := by decide +kernel
theorem dX9_calm_155 : decode cX9_calm 155 = .ok (.iload_n 1, 1) := by decide +kernel
theorem dX9_calm_156 : decode cX9_calm 156 = .ok (.ifCond .ne 7, 3) := by decide +kernel
theorem dX9_calm_159 : decode cX9_calm 159 = .ok (.iload_n 2, 1) := by decide +kernel
theorem dX9_calm_160 : decode cX9_calm 160 = .ok (.goto 4, 3) := by decide +kernel
theorem dX9_calm_163 : decode cX9_calm 163 = .ok (.iload_n 3, 1) := by decide +kernel
theorem dX9_calm_164 : decode cX9_calm 164 = .ok (.ireturn, 1) := by decide +kernel
theorem dX9_findOrder_0 : decode cX9_findOrder 0 = .ok (.aload_n 0, 1) := by decide +kernel
theorem dX9_findOrder_1 : decode cX9_findOrder 1 = .ok (.getfield 13, 3) := by decide +kernel
theorem dX9_findOrder_4 : decode cX9_findOrder 4 = .ok (.iconst 0, 1) := by decide +kernel
theorem dX9_findOrder_5 : decode cX9_findOrder 5 = .ok (.iaload, 1) := by decide +kernel
theorem dX9_findOrder_6 : decode cX9_findOrder 6 = .ok (.istore_n 1, 1) := by decide +kernel
theorem dX9_findOrder_7 : decode cX9_findOrder 7 = .ok (.iconst 0, 1) := by decide +kernel
theorem dX9_findOrder_8 : decode cX9_findOrder 8 = .ok (.istore_n 2, 1) := by decide +kernel
theorem dX9_findOrder_9 : decode cX9_findOrder 9 = .ok (.iload_n 2, 1) := by decide +kernel
theorem dX9_findOrder_10 : decode cX9_findOrder 10 = .ok (.iconst 1, 1) := by decide +kernel
theorem dX9_findOrder_11 : decode cX9_findOrder 11 = .ok (.iload_n 1, 1) := by decide +kernel
theorem dX9_findOrder_12 : decode cX9_findOrder 12 = .ok (.ishl, 1) := by decide +kernel
theorem dX9_findOrder_13 : decode cX9_findOrder 13 = .ok (.if_icmp .ge 132, 3) := by decide +kernel
theorem dX9_findOrder_16 : decode cX9_findOrder 16 = .ok (.iload_n 1, 1) := by decide +kernel
theorem dX9_findOrder_17 : decode cX9_findOrder 17 = .ok (.iconst 1, 1) := by decide +kernel
theorem dX9_findOrder_18 : decode cX9_findOrder 18 = .ok (.iadd, 1) := by decide +kernel
theorem dX9_findOrder_19 : decode cX9_findOrder 19 = .ok (.istore_n 3, 1) := by decide +kernel
theorem dX9_findOrder_20 : decode cX9_findOrder 20 = .ok (.iconst 0, 1) := by decide +kernel
theorem dX9_findOrder_21 : decode cX9_findOrder 21 = .ok (.istore 4, 2) := by decide +kernel
theorem dX9_findOrder_23 : decode cX9_findOrder 23 = .ok (.iload 4, 2) := by decide +kernel
theorem dX9_findOrder_25 : decode cX9_findOrder 25 = .ok (.iload_n 1, 1) := by decide +kernel
theorem dX9_findOrder_26 : decode cX9_findOrder 26 = .ok (.if_icmp .ge 18, 3) := by decide +kernel
theorem dX9_findOrder_29 : decode cX9_findOrder 29 = .ok (.iload_n 3, 1) := by decide +kernel
theorem dX9_findOrder_30 : decode cX9_findOrder 30 = .ok (.iload_n 2, 1) := by decide +kernel
theorem dX9_findOrder_31 : decode cX9_findOrder 31 = .ok (.iload 4, 2) := by decide +kernel
theorem dX9_findOrder_33 : decode cX9_findOrder 33 = .ok (.ishr, 1) := by decide +kernel
theorem dX9_findOrder_34 : decode cX9_findOrder 34 = .ok (.iconst 1, 1) := by decide +kernel
theorem dX9_findOrder_35 : decode cX9_findOrder 35 = .ok (.iand, 1) := by decide +kernel
theorem dX9_findOrder_36 : decode cX9_findOrder 36 = .ok (.isub, 1) := by decide +kernel
theorem dX9_findOrder_37 : decode cX9_findOrder 37 = .ok (.istore_n 3, 1) := by decide +kernel
theorem dX9_findOrder_38 : decode cX9_findOrder 38 = .ok (.iinc 4 1, 3) := by decide +kernel
theorem dX9_findOrder_41 : decode cX9_findOrder 41 = .ok (.goto (-18), 3) := by decide +kernel
theorem dX9_findOrder_44 : decode cX9_findOrder 44 = .ok (.iload_n 2, 1) := by decide +kernel
theorem dX9_findOrder_45 : decode cX9_findOrder 45 = .ok (.ifCond .ne 7, 3) := by decide +kernel
theorem dX9_findOrder_48 : decode cX9_findOrder 48 = .ok (.iconst 0, 1) := by decide +kernel
theorem dX9_findOrder_49 : decode cX9_findOrder 49 = .ok (.goto 6, 3) := by decide +kernel
theorem dX9_findOrder_52 : decode cX9_findOrder 52 = .ok (.sipush 999, 3) := by decide +kernel
theorem dX9_findOrder_55 : decode cX9_findOrder 55 = .ok (.istore 4, 2) := by decide +kernel
theorem dX9_findOrder_57 : decode cX9_findOrder 57 = .ok (.iconst 0, 1) := by decide +kernel
theorem dX9_findOrder_58 : decode cX9_findOrder 58 = .ok (.istore 5, 2) := by decide +kernel
theorem dX9_findOrder_60 : decode cX9_findOrder 60 = .ok (.iload 5, 2) := by decide +kernel
theorem dX9_findOrder_62 : decode cX9_findOrder 62 = .ok (.iload_n 1, 1) := by decide +kernel
theorem dX9_findOrder_63 : decode cX9_findOrder 63 = .ok (.if_icmp .ge 68, 3) := by decide +kernel
theorem dX9_findOrder_66 : decode cX9_findOrder 66 = .ok (.iload_n 2, 1) := by decide +kernel
theorem dX9_findOrder_67 : decode cX9_findOrder 67 = .ok (.iload 5, 2) := by decide +kernel
theorem dX9_findOrder_69 : decode cX9_findOrder 69 = .ok (.ishr, 1) := by decide +kernel
theorem dX9_findOrder_70 : decode cX9_findOrder 70 = .ok (.iconst 1, 1) := by decide +kernel
theorem dX9_findOrder_71 : decode cX9_findOrder 71 = .ok (.iand, 1) := by decide +kernel
theorem dX9_findOrder_72 : decode cX9_findOrder 72 = .ok (.iconst 1, 1) := by decide +kernel
theorem dX9_findOrder_73 : decode cX9_findOrder 73 = .ok (.if_icmp .ne 31, 3) := by decide +kernel
theorem dX9_findOrder_76 : decode cX9_findOrder 76 = .ok (.iload_n 3, 1) := by decide +kernel
theorem dX9_findOrder_77 : decode cX9_findOrder 77 = .ok (.aload_n 0, 1) := by decide +kernel
theorem dX9_findOrder_78 : decode cX9_findOrder 78 = .ok (.getfield 56, 3) := by decide +kernel
theorem dX9_findOrder_81 : decode cX9_findOrder 81 = .ok (.iload 5, 2) := by decide +kernel
theorem dX9_findOrder_83 : decode cX9_findOrder 83 = .ok (.iaload, 1) := by decide +kernel
theorem dX9_findOrder_84 : decode cX9_findOrder 84 = .ok (.invokestatic 235, 3) := by decide +kernel
theorem dX9_findOrder_87 : decode cX9_findOrder 87 = .ok (.aload_n 0, 1) := by decide +kernel
theorem dX9_findOrder_88 : decode cX9_findOrder 88 = .ok (.getfield 77, 3) := by decide +kernel
theorem dX9_findOrder_91 : decode cX9_findOrder 91 = .ok (.iload_n 2, 1) := by decide +kernel
theorem dX9_findOrder_92 : decode cX9_findOrder 92 = .ok (.iconst 1, 1) := by decide +kernel
theorem dX9_findOrder_93 : decode cX9_findOrder 93 = .ok (.iload 5, 2) := by decide +kernel
theorem dX9_findOrder_95 : decode cX9_findOrder 95 = .ok (.ishl, 1) := by decide +kernel
theorem dX9_findOrder_96 : decode cX9_findOrder 96 = .ok (.iconst (-1), 1) := by decide +kernel
theorem dX9_findOrder_97 : decode cX9_findOrder 97 = .ok (.ixor, 1) := by decide +kernel
theorem dX9_findOrder_98 : decode cX9_findOrder 98 = .ok (.iand, 1) := by decide +kernel
theorem dX9_findOrder_99 : decode cX9_findOrder 99 = .ok (.iaload, 1) := by decide +kernel
theorem dX9_findOrder_100 : decode cX9_findOrder 100 = .ok (.iadd, 1) := by decide +kernel
theorem dX9_findOrder_101 : decode cX9_findOrder 101 = .ok (.goto 6, 3) := by decide +kernel
theorem dX9_findOrder_104 : decode cX9_findOrder 104 = .ok (.sipush 999, 3) := by decide +kernel
theorem dX9_findOrder_107 : decode cX9_findOrder 107 = .ok (.istore 6, 2) := by decide +kernel
theorem dX9_findOrder_109 : decode cX9_findOrder 109 = .ok (.iload 6, 2) := by decide +kernel
theorem dX9_findOrder_111 : decode cX9_findOrder 111 = .ok (.iload 4, 2) := by decide +kernel
theorem dX9_findOrder_113 : decode cX9_findOrder 113 = .ok (.if_icmp .ge 8, 3) := by decide +kernel
theorem dX9_findOrder_116 : decode cX9_findOrder 116 = .ok (.iload 6, 2) := by decide +kernel
theorem dX9_findOrder_118 : decode cX9_findOrder 118 = .ok (.goto 5, 3) := by decide +kernel
theorem dX9_findOrder_121 : decode cX9_findOrder 121 = .ok (.iload 4, 2) := by decide +kernel
theorem dX9_findOrder_123 : decode cX9_findOrder 123 = .ok (.istore 4, 2) := by decide +kernel
theorem dX9_findOrder_125 : decode cX9_findOrder 125 = .ok (.iinc 5 1, 3) := by decide +kernel
theorem dX9_findOrder_128 : decode cX9_findOrder 128 = .ok (.goto (-68), 3) := by decide +kernel
theorem dX9_findOrder_131 : decode cX9_findOrder 131 = .ok (.aload_n 0, 1) := by decide +kernel
theorem dX9_findOrder_132 : decode cX9_findOrder 132 = .ok (.getfield 77, 3) := by decide +kernel
theorem dX9_findOrder_135 : decode cX9_findOrder 135 = .ok (.iload_n 2, 1) := by decide +kernel
theorem dX9_findOrder_136 : decode cX9_findOrder 136 = .ok (.iload 4, 2) := by decide +kernel
theorem dX9_findOrder_138 : decode cX9_findOrder 138 = .ok (.iastore, 1) := by decide +kernel
theorem dX9_findOrder_139 : decode cX9_findOrder 139 = .ok (.iinc 2 1, 3) := by decide +kernel
theorem dX9_findOrder_142 : decode cX9_findOrder 142 = .ok (.goto (-133), 3) := by decide +kernel
theorem dX9_findOrder_145 : decode cX9_findOrder 145 = .ok (.return_, 1) := by decide +kernel
theorem dX9_order_0 : decode cX9_order 0 = .ok (.iload_n 1, 1) := by decide +kernel
theorem dX9_order_1 : decode cX9_order 1 = .ok (.iconst 0, 1) := by decide +kernel
theorem dX9_order_2 : decode cX9_order 2 = .ok (.aload_n 0, 1) := by decide +kernel
theorem dX9_order_3 : decode cX9_order 3 = .ok (.getfield 13, 3) := by decide +kernel
theorem dX9_order_6 : decode cX9_order 6 = .ok (.iconst 0, 1) := by decide +kernel
theorem dX9_order_7 : decode cX9_order 7 = .ok (.iaload, 1) := by decide +kernel
theorem dX9_order_8 : decode cX9_order 8 = .ok (.invokestatic 93, 3) := by decide +kernel
theorem dX9_order_11 : decode cX9_order 11 = .ok (.ifCond .ne 5, 3) := by decide +kernel
theorem dX9_order_14 : decode cX9_order 14 = .ok (.iconst (-1), 1) := by decide +kernel
theorem dX9_order_15 : decode cX9_order 15 = .ok (.ireturn, 1) := by decide +kernel
theorem dX9_order_16 : decode cX9_order 16 = .ok (.aload_n 0, 1) := by decide +kernel
theorem dX9_order_17 : decode cX9_order 17 = .ok (.invokevirtual 238, 3) := by decide +kernel
theorem dX9_order_20 : decode cX9_order 20 = .ok (.iconst 1, 1) := by decide +kernel
theorem dX9_order_21 : decode cX9_order 21 = .ok (.aload_n 0, 1) := by decide +kernel
theorem dX9_order_22 : decode cX9_order 22 = .ok (.getfield 13, 3) := by decide +kernel
theorem dX9_order_25 : decode cX9_order 25 = .ok (.iconst 0, 1) := by decide +kernel
theorem dX9_order_26 : decode cX9_order 26 = .ok (.iaload, 1) := by decide +kernel
theorem dX9_order_27 : decode cX9_order 27 = .ok (.ishl, 1) := by decide +kernel
theorem dX9_order_28 : decode cX9_order 28 = .ok (.iconst 1, 1) := by decide +kernel
theorem dX9_order_29 : decode cX9_order 29 = .ok (.isub, 1) := by decide +kernel
theorem dX9_order_30 : decode cX9_order 30 = .ok (.istore_n 2, 1) := by decide +kernel
theorem dX9_order_31 : decode cX9_order 31 = .ok (.iload_n 1, 1) := by decide +kernel
theorem dX9_order_32 : decode cX9_order 32 = .ok (.ifCond .ne 10, 3) := by decide +kernel
theorem dX9_order_35 : decode cX9_order 35 = .ok (.aload_n 0, 1) := by decide +kernel
theorem dX9_order_36 : decode cX9_order 36 = .ok (.getfield 77, 3) := by decide +kernel
theorem dX9_order_39 : decode cX9_order 39 = .ok (.iload_n 2, 1) := by decide +kernel
theorem dX9_order_40 : decode cX9_order 40 = .ok (.iaload, 1) := by decide +kernel
theorem dX9_order_41 : decode cX9_order 41 = .ok (.ireturn, 1) := by decide +kernel
theorem dX9_order_42 : decode cX9_order 42 = .ok (.iconst 0, 1) := by decide +kernel
theorem dX9_order_43 : decode cX9_order 43 = .ok (.istore_n 3, 1) := by decide +kernel
theorem dX9_order_44 : decode cX9_order 44 = .ok (.iconst 1, 1) := by decide +kernel
theorem dX9_order_45 : decode cX9_order 45 = .ok (.istore 4, 2) := by decide +kernel
theorem dX9_order_47 : decode cX9_order 47 = .ok (.iload 4, 2) := by decide +kernel
theorem dX9_order_49 : decode cX9_order 49 = .ok (.iload_n 1, 1) := by decide +kernel
theorem dX9_order_50 : decode cX9_order 50 = .ok (.if_icmp .gt 66, 3) := by decide +kernel
theorem dX9_order_53 : decode cX9_order 53 = .ok (.iconst 0, 1) := by decide +kernel
theorem dX9_order_54 : decode cX9_order 54 = .ok (.istore_n 3, 1) := by decide +kernel
theorem dX9_order_55 : decode cX9_order 55 = .ok (.iload_n 2, 1) := by decide +kernel
theorem dX9_order_56 : decode cX9_order 56 = .ok (.iload_n 3, 1) := by decide +kernel
theorem dX9_order_57 : decode cX9_order 57 = .ok (.ishr, 1) := by decide +kernel
theorem dX9_order_58 : decode cX9_order 58 = .ok (.iconst 1, 1) := by decide +kernel
theorem dX9_order_59 : decode cX9_order 59 = .ok (.iand, 1) := by decide +kernel
theorem dX9_order_60 : decode cX9_order 60 = .ok (.ifCond .eq 36, 3) := by decide +kernel
theorem dX9_order_63 : decode cX9_order 63 = .ok (.iload 4, 2) := by decide +kernel
theorem dX9_order_65 : decode cX9_order 65 = .ok (.aload_n 0, 1) := by decide +kernel
theorem dX9_order_66 : decode cX9_order 66 = .ok (.getfield 56, 3) := by decide +kernel
theorem dX9_order_69 : decode cX9_order 69 = .ok (.iload_n 3, 1) := by decide +kernel
theorem dX9_order_70 : decode cX9_order 70 = .ok (.iaload, 1) := by decide +kernel
theorem dX9_order_71 : decode cX9_order 71 = .ok (.invokestatic 235, 3) := by decide +kernel
theorem dX9_order_74 : decode cX9_order 74 = .ok (.aload_n 0, 1) := by decide +kernel
theorem dX9_order_75 : decode cX9_order 75 = .ok (.getfield 77, 3) := by decide +kernel
theorem dX9_order_78 : decode cX9_order 78 = .ok (.iload_n 2, 1) := by decide +kernel
theorem dX9_order_79 : decode cX9_order 79 = .ok (.iconst 1, 1) := by decide +kernel
theorem dX9_order_80 : decode cX9_order 80 = .ok (.iload_n 3, 1) := by decide +kernel
theorem dX9_order_81 : decode cX9_order 81 = .ok (.ishl, 1) := by decide +kernel
theorem dX9_order_82 : decode cX9_order 82 = .ok (.iconst (-1), 1) := by decide +kernel
theorem dX9_order_83 : decode cX9_order 83 = .ok (.ixor, 1) := by decide +kernel
theorem dX9_order_84 : decode cX9_order 84 = .ok (.iand, 1) := by decide +kernel
theorem dX9_order_85 : decode cX9_order 85 = .ok (.iaload, 1) := by decide +kernel
theorem dX9_order_86 : decode cX9_order 86 = .ok (.iadd, 1) := by decide +kernel
theorem dX9_order_87 : decode cX9_order 87 = .ok (.aload_n 0, 1) := by decide +kernel
theorem dX9_order_88 : decode cX9_order 88 = .ok (.getfield 77, 3) := by decide +kernel
theorem dX9_order_91 : decode cX9_order 91 = .ok (.iload_n 2, 1) := by decide +kernel
theorem dX9_order_92 : decode cX9_order 92 = .ok (.iaload, 1) := by decide +kernel
theorem dX9_order_93 : decode cX9_order 93 = .ok (.if_icmp .eq 9, 3) := by decide +kernel
theorem dX9_order_96 : decode cX9_order 96 = .ok (.iinc 3 1, 3) := by decide +kernel
theorem dX9_order_99 : decode cX9_order 99 = .ok (.goto (-44), 3) := by decide +kernel
theorem dX9_order_102 : decode cX9_order 102 = .ok (.iload_n 2, 1) := by decide +kernel
theorem dX9_order_103 : decode cX9_order 103 = .ok (.iconst 1, 1) := by decide +kernel
theorem dX9_order_104 : decode cX9_order 104 = .ok (.iload_n 3, 1) := by decide +kernel
theorem dX9_order_105 : decode cX9_order 105 = .ok (.ishl, 1) := by decide +kernel
theorem dX9_order_106 : decode cX9_order 106 = .ok (.iconst (-1), 1) := by decide +kernel
theorem dX9_order_107 : decode cX9_order 107 = .ok (.ixor, 1) := by decide +kernel
theorem dX9_order_108 : decode cX9_order 108 = .ok (.iand, 1) := by decide +kernel
theorem dX9_order_109 : decode cX9_order 109 = .ok (.istore_n 2, 1) := by decide +kernel
theorem dX9_order_110 : decode cX9_order 110 = .ok (.iinc 4 1, 3) := by decide +kernel
theorem dX9_order_113 : decode cX9_order 113 = .ok (.goto (-66), 3) := by decide +kernel
theorem dX9_order_116 : decode cX9_order 116 = .ok (.iload_n 3, 1) := by decide +kernel
theorem dX9_order_117 : decode cX9_order 117 = .ok (.ireturn, 1) := by decide +kernel
theorem dX9_harvest_0 : decode cX9_harvest 0 = .ok (.iload_n 1, 1) := by decide +kernel
theorem dX9_harvest_1 : decode cX9_harvest 1 = .ok (.iconst 1, 1) := by decide +kernel
theorem dX9_harvest_2 : decode cX9_harvest 2 = .ok (.bipush 99, 2) := by decide +kernel
theorem dX9_harvest_4 : decode cX9_harvest 4 = .ok (.invokestatic 93, 3) := by decide +kernel
theorem dX9_harvest_7 : decode cX9_harvest 7 = .ok (.ifCond .ne 5, 3) := by decide +kernel
theorem dX9_harvest_10 : decode cX9_harvest 10 = .ok (.iconst (-1), 1) := by decide +kernel
theorem dX9_harvest_11 : decode cX9_harvest 11 = .ok (.ireturn, 1) := by decide +kernel
theorem dX9_harvest_12 : decode cX9_harvest 12 = .ok (.aload_n 0, 1) := by decide +kernel
theorem dX9_harvest_13 : decode cX9_harvest 13 = .ok (.invokevirtual 203, 3) := by decide +kernel
theorem dX9_harvest_16 : decode cX9_harvest 16 = .ok (.aload_n 0, 1) := by decide +kernel
theorem dX9_harvest_17 : decode cX9_harvest 17 = .ok (.iconst 0, 1) := by decide +kernel
theorem dX9_harvest_18 : decode cX9_harvest 18 = .ok (.invokevirtual 216, 3) := by decide +kernel
theorem dX9_harvest_21 : decode cX9_harvest 21 = .ok (.iconst 0, 1) := by decide +kernel
theorem dX9_harvest_22 : decode cX9_harvest 22 = .ok (.istore_n 2, 1) := by decide +kernel
theorem dX9_harvest_23 : decode cX9_harvest 23 = .ok (.iconst 0, 1) := by decide +kernel
theorem dX9_harvest_24 : decode cX9_harvest 24 = .ok (.istore_n 3, 1) := by decide +kernel
theorem dX9_harvest_25 : decode cX9_harvest 25 = .ok (.iload_n 3, 1) := by decide +kernel
theorem dX9_harvest_26 : decode cX9_harvest 26 = .ok (.iload_n 1, 1) := by decide +kernel
theorem dX9_harvest_27 : decode cX9_harvest 27 = .ok (.if_icmp .ge 30, 3) := by decide +kernel
theorem dX9_harvest_30 : decode cX9_harvest 30 = .ok (.iload_n 2, 1) := by decide +kernel
theorem dX9_harvest_31 : decode cX9_harvest 31 = .ok (.aload_n 0, 1) := by decide +kernel
theorem dX9_harvest_32 : decode cX9_harvest 32 = .ok (.getfield 59, 3) := by decide +kernel
theorem dX9_harvest_35 : decode cX9_harvest 35 = .ok (.aload_n 0, 1) := by decide +kernel
theorem dX9_harvest_36 : decode cX9_harvest 36 = .ok (.getfield 71, 3) := by decide +kernel
theorem dX9_harvest_39 : decode cX9_harvest 39 = .ok (.iload_n 3, 1) := by decide +kernel
theorem dX9_harvest_40 : decode cX9_harvest 40 = .ok (.aload_n 0, 1) := by decide +kernel
theorem dX9_harvest_41 : decode cX9_harvest 41 = .ok (.getfield 13, 3) := by decide +kernel
theorem dX9_harvest_44 : decode cX9_harvest 44 = .ok (.iconst 0, 1) := by decide +kernel
theorem dX9_harvest_45 : decode cX9_harvest 45 = .ok (.iaload, 1) := by decide +kernel
theorem dX9_harvest_46 : decode cX9_harvest 46 = .ok (.irem, 1) := by decide +kernel
theorem dX9_harvest_47 : decode cX9_harvest 47 = .ok (.iaload, 1) := by decide +kernel
theorem dX9_harvest_48 : decode cX9_harvest 48 = .ok (.iaload, 1) := by decide +kernel
theorem dX9_harvest_49 : decode cX9_harvest 49 = .ok (.iadd, 1) := by decide +kernel
theorem dX9_harvest_50 : decode cX9_harvest 50 = .ok (.istore_n 2, 1) := by decide +kernel
theorem dX9_harvest_51 : decode cX9_harvest 51 = .ok (.iinc 3 1, 3) := by decide +kernel
theorem dX9_harvest_54 : decode cX9_harvest 54 = .ok (.goto (-29), 3) := by decide +kernel
theorem dX9_harvest_57 : decode cX9_harvest 57 = .ok (.iload_n 2, 1) := by decide +kernel
theorem dX9_harvest_58 : decode cX9_harvest 58 = .ok (.ireturn, 1) := by decide +kernel
theorem dX9_odds_0 : decode cX9_odds 0 = .ok (.aload_n 0, 1) := by decide +kernel
theorem dX9_odds_1 : decode cX9_odds 1 = .ok (.iload_n 1, 1) := by decide +kernel
theorem dX9_odds_2 : decode cX9_odds 2 = .ok (.invokevirtual 152, 3) := by decide +kernel
theorem dX9_odds_5 : decode cX9_odds 5 = .ok (.ifCond .eq 32, 3) := by decide +kernel
theorem dX9_odds_8 : decode cX9_odds 8 = .ok (.iload_n 2, 1) := by decide +kernel
theorem dX9_odds_9 : decode cX9_odds 9 = .ok (.iconst 0, 1) := by decide +kernel
theorem dX9_odds_10 : decode cX9_odds 10 = .ok (.iconst 5, 1) := by decide +kernel
theorem dX9_odds_11 : decode cX9_odds 11 = .ok (.invokestatic 93, 3) := by decide +kernel
theorem dX9_odds_14 : decode cX9_odds 14 = .ok (.ifCond .eq 23, 3) := by decide +kernel
theorem dX9_odds_17 : decode cX9_odds 17 = .ok (.iload_n 3, 1) := by decide +kernel
theorem dX9_odds_18 : decode cX9_odds 18 = .ok (.iconst 0, 1) := by decide +kernel
theorem dX9_odds_19 : decode cX9_odds 19 = .ok (.bipush 10, 2) := by decide +kernel
theorem dX9_odds_21 : decode cX9_odds 21 = .ok (.invokestatic 93, 3) := by decide +kernel
theorem dX9_odds_24 : decode cX9_odds 24 = .ok (.ifCond .eq 13, 3) := by decide +kernel
theorem dX9_odds_27 : decode cX9_odds 27 = .ok (.iload 4, 2) := by decide +kernel
theorem dX9_odds_29 : decode cX9_odds 29 = .ok (.iconst 0, 1) := by decide +kernel
theorem dX9_odds_30 : decode cX9_odds 30 = .ok (.iconst 1, 1) := by decide +kernel
theorem dX9_odds_31 : decode cX9_odds 31 = .ok (.invokestatic 93, 3) := by decide +kernel
theorem dX9_odds_34 : decode cX9_odds 34 = .ok (.ifCond .ne 5, 3) := by decide +kernel
theorem dX9_odds_37 : decode cX9_odds 37 = .ok (.iconst (-1), 1) := by decide +kernel
theorem dX9_odds_38 : decode cX9_odds 38 = .ok (.ireturn, 1) := by decide +kernel
theorem dX9_odds_39 : decode cX9_odds 39 = .ok (.iconst 0, 1) := by decide +kernel
theorem dX9_odds_40 : decode cX9_odds 40 = .ok (.istore 5, 2) := by decide +kernel
theorem dX9_odds_42 : decode cX9_odds 42 = .ok (.iconst 1, 1) := by decide +kernel
theorem dX9_odds_43 : decode cX9_odds 43 = .ok (.istore 6, 2) := by decide +kernel
theorem dX9_odds_45 : decode cX9_odds 45 = .ok (.iconst 0, 1) := by decide +kernel
theorem dX9_odds_46 : decode cX9_odds 46 = .ok (.istore 7, 2) := by decide +kernel
theorem dX9_odds_48 : decode cX9_odds 48 = .ok (.iload 7, 2) := by decide +kernel
theorem dX9_odds_50 : decode cX9_odds 50 = .ok (.iconst 1, 1) := by decide +kernel
theorem dX9_odds_51 : decode cX9_odds 51 = .ok (.iload_n 2, 1) := by decide +kernel
theorem dX9_odds_52 : decode cX9_odds 52 = .ok (.ishl, 1) := by decide +kernel
theorem dX9_odds_53 : decode cX9_odds 53 = .ok (.if_icmp .ge 89, 3) := by decide +kernel
theorem dX9_odds_56 : decode cX9_odds 56 = .ok (.iconst 1, 1) := by decide +kernel
theorem dX9_odds_57 : decode cX9_odds 57 = .ok (.istore 8, 2) := by decide +kernel
theorem dX9_odds_59 : decode cX9_odds 59 = .ok (.iconst 0, 1) := by decide +kernel
theorem dX9_odds_60 : decode cX9_odds 60 = .ok (.istore 9, 2) := by decide +kernel
theorem dX9_odds_62 : decode cX9_odds 62 = .ok (.iload 9, 2) := by decide +kernel
theorem dX9_odds_64 : decode cX9_odds 64 = .ok (.iload_n 2, 1) := by decide +kernel
theorem dX9_odds_65 : decode cX9_odds 65 = .ok (.if_icmp .ge 33, 3) := by decide +kernel
theorem dX9_odds_68 : decode cX9_odds 68 = .ok (.iload 8, 2) := by decide +kernel
theorem dX9_odds_70 : decode cX9_odds 70 = .ok (.iload 7, 2) := by decide +kernel
theorem dX9_odds_72 : decode cX9_odds 72 = .ok (.iload 9, 2) := by decide +kernel
theorem dX9_odds_74 : decode cX9_odds 74 = .ok (.ishr, 1) := by decide +kernel
theorem dX9_odds_75 : decode cX9_odds 75 = .ok (.iconst 1, 1) := by decide +kernel
theorem dX9_odds_76 : decode cX9_odds 76 = .ok (.iand, 1) := by decide +kernel
theorem dX9_odds_77 : decode cX9_odds 77 = .ok (.iconst 1, 1) := by decide +kernel
theorem dX9_odds_78 : decode cX9_odds 78 = .ok (.if_icmp .ne 7, 3) := by decide +kernel
theorem dX9_odds_81 : decode cX9_odds 81 = .ok (.iload_n 3, 1) := by decide +kernel
theorem dX9_odds_82 : decode cX9_odds 82 = .ok (.goto 7, 3) := by decide +kernel
theorem dX9_odds_85 : decode cX9_odds 85 = .ok (.bipush 10, 2) := by decide +kernel
theorem dX9_odds_87 : decode cX9_odds 87 = .ok (.iload_n 3, 1) := by decide +kernel
theorem dX9_odds_88 : decode cX9_odds 88 = .ok (.isub, 1) := by decide +kernel
theorem dX9_odds_89 : decode cX9_odds 89 = .ok (.imul, 1) := by decide +kernel
theorem dX9_odds_90 : decode cX9_odds 90 = .ok (.istore 8, 2) := by decide +kernel
theorem dX9_odds_92 : decode cX9_odds 92 = .ok (.iinc 9 1, 3) := by decide +kernel
theorem dX9_odds_95 : decode cX9_odds 95 = .ok (.goto (-33), 3) := by decide +kernel
theorem dX9_odds_98 : decode cX9_odds 98 = .ok (.aload_n 0, 1) := by decide +kernel
theorem dX9_odds_99 : decode cX9_odds 99 = .ok (.invokevirtual 196, 3) := by decide +kernel
theorem dX9_odds_102 : decode cX9_odds 102 = .ok (.aload_n 0, 1) := by decide +kernel
theorem dX9_odds_103 : decode cX9_odds 103 = .ok (.iload 7, 2) := by decide +kernel
theorem dX9_odds_105 : decode cX9_odds 105 = .ok (.putfield 182, 3) := by decide +kernel
theorem dX9_odds_108 : decode cX9_odds 108 = .ok (.aload_n 0, 1) := by decide +kernel
theorem dX9_odds_109 : decode cX9_odds 109 = .ok (.iconst 0, 1) := by decide +kernel
theorem dX9_odds_110 : decode cX9_odds 110 = .ok (.sipush 200, 3) := by decide +kernel
theorem dX9_odds_113 : decode cX9_odds 113 = .ok (.invokevirtual 199, 3) := by decide +kernel
theorem dX9_odds_116 : decode cX9_odds 116 = .ok (.iload 5, 2) := by decide +kernel
theorem dX9_odds_118 : decode cX9_odds 118 = .ok (.aload_n 0, 1) := by decide +kernel
theorem dX9_odds_119 : decode cX9_odds 119 = .ok (.iconst 0, 1) := by decide +kernel
theorem dX9_odds_120 : decode cX9_odds 120 = .ok (.invokevirtual 232, 3) := by decide +kernel
theorem dX9_odds_123 : decode cX9_odds 123 = .ok (.iload_n 1, 1) := by decide +kernel
theorem dX9_odds_124 : decode cX9_odds 124 = .ok (.if_icmp .ne 8, 3) := by decide +kernel
theorem dX9_odds_127 : decode cX9_odds 127 = .ok (.iload 8, 2) := by decide +kernel
theorem dX9_odds_129 : decode cX9_odds 129 = .ok (.goto 4, 3) := by decide +kernel
theorem dX9_odds_132 : decode cX9_odds 132 = .ok (.iconst 0, 1) := by decide +kernel
theorem dX9_odds_133 : decode cX9_odds 133 = .ok (.iadd, 1) := by decide +kernel
theorem dX9_odds_134 : decode cX9_odds 134 = .ok (.istore 5, 2) := by decide +kernel
theorem dX9_odds_136 : decode cX9_odds 136 = .ok (.iinc 7 1, 3) := by decide +kernel
theorem dX9_odds_139 : decode cX9_odds 139 = .ok (.goto (-91), 3) := by decide +kernel
theorem dX9_odds_142 : decode cX9_odds 142 = .ok (.iconst 0, 1) := by decide +kernel
theorem dX9_odds_143 : decode cX9_odds 143 = .ok (.istore 7, 2) := by decide +kernel
theorem dX9_odds_145 : decode cX9_odds 145 = .ok (.iload 7, 2) := by decide +kernel
theorem dX9_odds_147 : decode cX9_odds 147 = .ok (.iload_n 2, 1) := by decide +kernel
theorem dX9_odds_148 : decode cX9_odds 148 = .ok (.if_icmp .ge 16, 3) := by decide +kernel
theorem dX9_odds_151 : decode cX9_odds 151 = .ok (.iload 6, 2) := by decide +kernel
theorem dX9_odds_153 : decode cX9_odds 153 = .ok (.bipush 10, 2) := by decide +kernel
theorem dX9_odds_155 : decode cX9_odds 155 = .ok (.imul, 1) := by decide +kernel
theorem dX9_odds_156 : decode cX9_odds 156 = .ok (.istore 6, 2) := by decide +kernel
theorem dX9_odds_158 : decode cX9_odds 158 = .ok (.iinc 7 1, 3) := by decide +kernel
theorem dX9_odds_161 : decode cX9_odds 161 = .ok (.goto (-16), 3) := by decide +kernel
theorem dX9_odds_164 : decode cX9_odds 164 = .ok (.iload 5, 2) := by decide +kernel
theorem dX9_odds_166 : decode cX9_odds 166 = .ok (.istore 7, 2) := by decide +kernel
theorem dX9_odds_168 : decode cX9_odds 168 = .ok (.iload 6, 2) := by decide +kernel
theorem dX9_odds_170 : decode cX9_odds 170 = .ok (.istore 8, 2) := by decide +kernel
theorem dX9_odds_172 : decode cX9_odds 172 = .ok (.iload 8, 2) := by decide +kernel
theorem dX9_odds_174 : decode cX9_odds 174 = .ok (.ifCond .eq 21, 3) := by decide +kernel
theorem dX9_odds_177 : decode cX9_odds 177 = .ok (.iload 7, 2) := by decide +kernel
theorem dX9_odds_179 : decode cX9_odds 179 = .ok (.iload 8, 2) := by decide +kernel
theorem dX9_odds_181 : decode cX9_odds 181 = .ok (.irem, 1) := by decide +kernel
theorem dX9_odds_182 : decode cX9_odds 182 = .ok (.istore 9, 2) := by decide +kernel
theorem dX9_odds_184 : decode cX9_odds 184 = .ok (.iload 8, 2) := by decide +kernel
theorem dX9_odds_186 : decode cX9_odds 186 = .ok (.istore 7, 2) := by decide +kernel
theorem dX9_odds_188 : decode cX9_odds 188 = .ok (.iload 9, 2) := by decide +kernel
theorem dX9_odds_190 : decode cX9_odds 190 = .ok (.istore 8, 2) := by decide +kernel
theorem dX9_odds_192 : decode cX9_odds 192 = .ok (.goto (-20), 3) := by decide +kernel
theorem dX9_odds_195 : decode cX9_odds 195 = .ok (.iload 4, 2) := by decide +kernel
theorem dX9_odds_197 : decode cX9_odds 197 = .ok (.ifCond .ne 11, 3) := by decide +kernel
theorem dX9_odds_200 : decode cX9_odds 200 = .ok (.iload 5, 2) := by decide +kernel
theorem dX9_odds_202 : decode cX9_odds 202 = .ok (.iload 7, 2) := by decide +kernel
theorem dX9_odds_204 : decode cX9_odds 204 = .ok (.idiv, 1) := by decide +kernel
theorem dX9_odds_205 : decode cX9_odds 205 = .ok (.goto 8, 3) := by decide +kernel
theorem dX9_odds_208 : decode cX9_odds 208 = .ok (.iload 6, 2) := by decide +kernel
theorem dX9_odds_210 : decode cX9_odds 210 = .ok (.iload 7, 2) := by decide +kernel
theorem dX9_odds_212 : decode cX9_odds 212 = .ok (.idiv, 1) := by decide +kernel
theorem dX9_odds_213 : decode cX9_odds 213 = .ok (.ireturn, 1) := by decide +kernel
theorem dX9_seen_0 : decode cX9_seen 0 = .ok (.aload_n 0, 1) := by decide +kernel
theorem dX9_seen_1 : decode cX9_seen 1 = .ok (.iload_n 1, 1) := by decide +kernel
theorem dX9_seen_2 : decode cX9_seen 2 = .ok (.invokevirtual 152, 3) := by decide +kernel
theorem dX9_seen_5 : decode cX9_seen 5 = .ok (.ifCond .eq 17, 3) := by decide +kernel
theorem dX9_seen_8 : decode cX9_seen 8 = .ok (.iload_n 2, 1) := by decide +kernel
theorem dX9_seen_9 : decode cX9_seen 9 = .ok (.iconst 1, 1) := by decide +kernel
theorem dX9_seen_10 : decode cX9_seen 10 = .ok (.aload_n 0, 1) := by decide +kernel
theorem dX9_seen_11 : decode cX9_seen 11 = .ok (.getfield 13, 3) := by decide +kernel
theorem dX9_seen_14 : decode cX9_seen 14 = .ok (.iconst 0, 1) := by decide +kernel
theorem dX9_seen_15 : decode cX9_seen 15 = .ok (.iaload, 1) := by decide +kernel
theorem dX9_seen_16 : decode cX9_seen 16 = .ok (.invokestatic 93, 3) := by decide +kernel
theorem dX9_seen_19 : decode cX9_seen 19 = .ok (.ifCond .ne 5, 3) := by decide +kernel
theorem dX9_seen_22 : decode cX9_seen 22 = .ok (.iconst (-1), 1) := by decide +kernel
theorem dX9_seen_23 : decode cX9_seen 23 = .ok (.ireturn, 1) := by decide +kernel
theorem dX9_seen_24 : decode cX9_seen 24 = .ok (.aload_n 0, 1) := by decide +kernel
theorem dX9_seen_25 : decode cX9_seen 25 = .ok (.getfield 149, 3) := by decide +kernel
theorem dX9_seen_28 : decode cX9_seen 28 = .ok (.bipush 6, 2) := by decide +kernel
theorem dX9_seen_30 : decode cX9_seen 30 = .ok (.if_icmp .ne 6, 3) := by decide +kernel
theorem dX9_seen_33 : decode cX9_seen 33 = .ok (.bipush (-3), 2) := by decide +kernel
theorem dX9_seen_35 : decode cX9_seen 35 = .ok (.ireturn, 1) := by decide +kernel
theorem dX9_seen_36 : decode cX9_seen 36 = .ok (.aload_n 0, 1) := by decide +kernel
theorem dX9_seen_37 : decode cX9_seen 37 = .ok (.getfield 80, 3) := by decide +kernel
theorem dX9_seen_40 : decode cX9_seen 40 = .ok (.aload_n 0, 1) := by decide +kernel
theorem dX9_seen_41 : decode cX9_seen 41 = .ok (.getfield 149, 3) := by decide +kernel
theorem dX9_seen_44 : decode cX9_seen 44 = .ok (.iload_n 1, 1) := by decide +kernel
theorem dX9_seen_45 : decode cX9_seen 45 = .ok (.iastore, 1) := by decide +kernel
theorem dX9_seen_46 : decode cX9_seen 46 = .ok (.aload_n 0, 1) := by decide +kernel
theorem dX9_seen_47 : decode cX9_seen 47 = .ok (.getfield 83, 3) := by decide +kernel
theorem dX9_seen_50 : decode cX9_seen 50 = .ok (.aload_n 0, 1) := by decide +kernel
theorem dX9_seen_51 : decode cX9_seen 51 = .ok (.getfield 149, 3) := by decide +kernel
theorem dX9_seen_54 : decode cX9_seen 54 = .ok (.iload_n 2, 1) := by decide +kernel
theorem dX9_seen_55 : decode cX9_seen 55 = .ok (.iastore, 1) := by decide +kernel
theorem dX9_seen_56 : decode cX9_seen 56 = .ok (.aload_n 0, 1) := by decide +kernel
theorem dX9_seen_57 : decode cX9_seen 57 = .ok (.dup, 1) := by decide +kernel
theorem dX9_seen_58 : decode cX9_seen 58 = .ok (.getfield 149, 3) := by decide +kernel
theorem dX9_seen_61 : decode cX9_seen 61 = .ok (.iconst 1, 1) := by decide +kernel
theorem dX9_seen_62 : decode cX9_seen 62 = .ok (.iadd, 1) := by decide +kernel
theorem dX9_seen_63 : decode cX9_seen 63 = .ok (.putfield 149, 3) := by decide +kernel
theorem dX9_seen_66 : decode cX9_seen 66 = .ok (.aload_n 0, 1) := by decide +kernel
theorem dX9_seen_67 : decode cX9_seen 67 = .ok (.getfield 149, 3) := by decide +kernel
theorem dX9_seen_70 : decode cX9_seen 70 = .ok (.ireturn, 1) := by decide +kernel
theorem dX9_forget_0 : decode cX9_forget 0 = .ok (.aload_n 0, 1) := by decide +kernel
theorem dX9_forget_1 : decode cX9_forget 1 = .ok (.getfield 149, 3) := by decide +kernel
theorem dX9_forget_4 : decode cX9_forget 4 = .ok (.istore_n 1, 1) := by decide +kernel
theorem dX9_forget_5 : decode cX9_forget 5 = .ok (.aload_n 0, 1) := by decide +kernel
theorem dX9_forget_6 : decode cX9_forget 6 = .ok (.iconst 0, 1) := by decide +kernel
theorem dX9_forget_7 : decode cX9_forget 7 = .ok (.putfield 149, 3) := by decide +kernel
theorem dX9_forget_10 : decode cX9_forget 10 = .ok (.iload_n 1, 1) := by decide +kernel
theorem dX9_forget_11 : decode cX9_forget 11 = .ok (.ireturn, 1) := by decide +kernel
theorem dX9_fits_0 : decode cX9_fits 0 = .ok (.aload_n 0, 1) := by decide +kernel
theorem dX9_fits_1 : decode cX9_fits 1 = .ok (.iconst 0, 1) := by decide +kernel
theorem dX9_fits_2 : decode cX9_fits 2 = .ok (.sipush 176, 3) := by decide +kernel
theorem dX9_fits_5 : decode cX9_fits 5 = .ok (.invokevirtual 220, 3) := by decide +kernel
theorem dX9_fits_8 : decode cX9_fits 8 = .ok (.iconst 0, 1) := by decide +kernel
theorem dX9_fits_9 : decode cX9_fits 9 = .ok (.istore_n 3, 1) := by decide +kernel
theorem dX9_fits_10 : decode cX9_fits 10 = .ok (.iload_n 3, 1) := by decide +kernel
theorem dX9_fits_11 : decode cX9_fits 11 = .ok (.bipush 8, 2) := by decide +kernel
theorem dX9_fits_13 : decode cX9_fits 13 = .ok (.if_icmp .ge 30, 3) := by decide +kernel
theorem dX9_fits_16 : decode cX9_fits 16 = .ok (.aload_n 0, 1) := by decide +kernel
theorem dX9_fits_17 : decode cX9_fits 17 = .ok (.getfield 62, 3) := by decide +kernel
theorem dX9_fits_20 : decode cX9_fits 20 = .ok (.sipush 184, 3) := by decide +kernel
theorem dX9_fits_23 : decode cX9_fits 23 = .ok (.iload_n 3, 1) := by decide +kernel
theorem dX9_fits_24 : decode cX9_fits 24 = .ok (.iadd, 1) := by decide +kernel
theorem dX9_fits_25 : decode cX9_fits 25 = .ok (.iload_n 3, 1) := by decide +kernel
theorem dX9_fits_26 : decode cX9_fits 26 = .ok (.iload_n 1, 1) := by decide +kernel
theorem dX9_fits_27 : decode cX9_fits 27 = .ok (.if_icmp .ne 7, 3) := by decide +kernel
theorem dX9_fits_30 : decode cX9_fits 30 = .ok (.iload_n 2, 1) := by decide +kernel
theorem dX9_fits_31 : decode cX9_fits 31 = .ok (.goto 5, 3) := by decide +kernel
theorem dX9_fits_34 : decode cX9_fits 34 = .ok (.bipush (-4), 2) := by decide +kernel
theorem dX9_fits_36 : decode cX9_fits 36 = .ok (.iastore, 1) := by decide +kernel
theorem dX9_fits_37 : decode cX9_fits 37 = .ok (.iinc 3 1, 3) := by decide +kernel
theorem dX9_fits_40 : decode cX9_fits 40 = .ok (.goto (-30), 3) := by decide +kernel
theorem dX9_fits_43 : decode cX9_fits 43 = .ok (.aload_n 0, 1) := by decide +kernel
theorem dX9_fits_44 : decode cX9_fits 44 = .ok (.invokevirtual 196, 3) := by decide +kernel
theorem dX9_fits_47 : decode cX9_fits 47 = .ok (.aload_n 0, 1) := by decide +kernel
theorem dX9_fits_48 : decode cX9_fits 48 = .ok (.sipush 176, 3) := by decide +kernel
theorem dX9_fits_51 : decode cX9_fits 51 = .ok (.sipush 200, 3) := by decide +kernel
theorem dX9_fits_54 : decode cX9_fits 54 = .ok (.invokevirtual 199, 3) := by decide +kernel
theorem dX9_fits_57 : decode cX9_fits 57 = .ok (.iconst 1, 1) := by decide +kernel
theorem dX9_fits_58 : decode cX9_fits 58 = .ok (.istore_n 3, 1) := by decide +kernel
theorem dX9_fits_59 : decode cX9_fits 59 = .ok (.iconst 0, 1) := by decide +kernel
theorem dX9_fits_60 : decode cX9_fits 60 = .ok (.istore 4, 2) := by decide +kernel
theorem dX9_fits_62 : decode cX9_fits 62 = .ok (.iload 4, 2) := by decide +kernel
theorem dX9_fits_64 : decode cX9_fits 64 = .ok (.aload_n 0, 1) := by decide +kernel
theorem dX9_fits_65 : decode cX9_fits 65 = .ok (.getfield 149, 3) := by decide +kernel
theorem dX9_fits_68 : decode cX9_fits 68 = .ok (.if_icmp .ge 43, 3) := by decide +kernel
theorem dX9_fits_71 : decode cX9_fits 71 = .ok (.iload_n 3, 1) := by decide +kernel
theorem dX9_fits_72 : decode cX9_fits 72 = .ok (.ifCond .eq 31, 3) := by decide +kernel
theorem dX9_fits_75 : decode cX9_fits 75 = .ok (.aload_n 0, 1) := by decide +kernel
theorem dX9_fits_76 : decode cX9_fits 76 = .ok (.sipush 176, 3) := by decide +kernel
theorem dX9_fits_79 : decode cX9_fits 79 = .ok (.aload_n 0, 1) := by decide +kernel
theorem dX9_fits_80 : decode cX9_fits 80 = .ok (.getfield 80, 3) := by decide +kernel
theorem dX9_fits_83 : decode cX9_fits 83 = .ok (.iload 4, 2) := by decide +kernel
theorem dX9_fits_85 : decode cX9_fits 85 = .ok (.iaload, 1) := by decide +kernel
theorem dX9_fits_86 : decode cX9_fits 86 = .ok (.invokevirtual 213, 3) := by decide +kernel
theorem dX9_fits_89 : decode cX9_fits 89 = .ok (.aload_n 0, 1) := by decide +kernel
theorem dX9_fits_90 : decode cX9_fits 90 = .ok (.getfield 83, 3) := by decide +kernel
theorem dX9_fits_93 : decode cX9_fits 93 = .ok (.iload 4, 2) := by decide +kernel
theorem dX9_fits_95 : decode cX9_fits 95 = .ok (.iaload, 1) := by decide +kernel
theorem dX9_fits_96 : decode cX9_fits 96 = .ok (.if_icmp .ne 7, 3) := by decide +kernel
theorem dX9_fits_99 : decode cX9_fits 99 = .ok (.iconst 1, 1) := by decide +kernel
theorem dX9_fits_100 : decode cX9_fits 100 = .ok (.goto 4, 3) := by decide +kernel
theorem dX9_fits_103 : decode cX9_fits 103 = .ok (.iconst 0, 1) := by decide +kernel
theorem dX9_fits_104 : decode cX9_fits 104 = .ok (.istore_n 3, 1) := by decide +kernel
theorem dX9_fits_105 : decode cX9_fits 105 = .ok (.iinc 4 1, 3) := by decide +kernel
theorem dX9_fits_108 : decode cX9_fits 108 = .ok (.goto (-46), 3) := by decide +kernel
theorem dX9_fits_111 : decode cX9_fits 111 = .ok (.iload_n 3, 1) := by decide +kernel
theorem dX9_fits_112 : decode cX9_fits 112 = .ok (.ireturn, 1) := by decide +kernel
theorem dX9_rides_0 : decode cX9_rides 0 = .ok (.iload_n 1, 1) := by decide +kernel
theorem dX9_rides_1 : decode cX9_rides 1 = .ok (.iconst 0, 1) := by decide +kernel
theorem dX9_rides_2 : decode cX9_rides 2 = .ok (.iconst 1, 1) := by decide +kernel
theorem dX9_rides_3 : decode cX9_rides 3 = .ok (.invokestatic 93, 3) := by decide +kernel
theorem dX9_rides_6 : decode cX9_rides 6 = .ok (.ifCond .ne 5, 3) := by decide +kernel
theorem dX9_rides_9 : decode cX9_rides 9 = .ok (.iconst (-1), 1) := by decide +kernel
theorem dX9_rides_10 : decode cX9_rides 10 = .ok (.ireturn, 1) := by decide +kernel
theorem dX9_rides_11 : decode cX9_rides 11 = .ok (.iconst 0, 1) := by decide +kernel
theorem dX9_rides_12 : decode cX9_rides 12 = .ok (.istore_n 2, 1) := by decide +kernel
theorem dX9_rides_13 : decode cX9_rides 13 = .ok (.bipush (-4), 2) := by decide +kernel
theorem dX9_rides_15 : decode cX9_rides 15 = .ok (.istore_n 3, 1) := by decide +kernel
theorem dX9_rides_16 : decode cX9_rides 16 = .ok (.iconst 0, 1) := by decide +kernel
theorem dX9_rides_17 : decode cX9_rides 17 = .ok (.istore 4, 2) := by decide +kernel
theorem dX9_rides_19 : decode cX9_rides 19 = .ok (.iload 4, 2) := by decide +kernel
theorem dX9_rides_21 : decode cX9_rides 21 = .ok (.bipush 64, 2) := by decide +kernel
theorem dX9_rides_23 : decode cX9_rides 23 = .ok (.if_icmp .gt 124, 3) := by decide +kernel
theorem dX9_rides_26 : decode cX9_rides 26 = .ok (.iload 4, 2) := by decide +kernel
theorem dX9_rides_28 : decode cX9_rides 28 = .ok (.bipush 8, 2) := by decide +kernel
theorem dX9_rides_30 : decode cX9_rides 30 = .ok (.idiv, 1) := by decide +kernel
theorem dX9_rides_31 : decode cX9_rides 31 = .ok (.istore 5, 2) := by decide +kernel
theorem dX9_rides_33 : decode cX9_rides 33 = .ok (.iload 4, 2) := by decide +kernel
theorem dX9_rides_35 : decode cX9_rides 35 = .ok (.bipush 8, 2) := by decide +kernel
theorem dX9_rides_37 : decode cX9_rides 37 = .ok (.irem, 1) := by decide +kernel
theorem dX9_rides_38 : decode cX9_rides 38 = .ok (.istore 6, 2) := by decide +kernel
theorem dX9_rides_40 : decode cX9_rides 40 = .ok (.iload 4, 2) := by decide +kernel
theorem dX9_rides_42 : decode cX9_rides 42 = .ok (.bipush 64, 2) := by decide +kernel
theorem dX9_rides_44 : decode cX9_rides 44 = .ok (.if_icmp .eq 39, 3) := by decide +kernel
theorem dX9_rides_47 : decode cX9_rides 47 = .ok (.aload_n 0, 1) := by decide +kernel
theorem dX9_rides_48 : decode cX9_rides 48 = .ok (.iload 5, 2) := by decide +kernel
theorem dX9_rides_50 : decode cX9_rides 50 = .ok (.invokevirtual 152, 3) := by decide +kernel
theorem dX9_rides_53 : decode cX9_rides 53 = .ok (.ifCond .eq 34, 3) := by decide +kernel
theorem dX9_rides_56 : decode cX9_rides 56 = .ok (.aload_n 0, 1) := by decide +kernel
theorem dX9_rides_57 : decode cX9_rides 57 = .ok (.iload 6, 2) := by decide +kernel
theorem dX9_rides_59 : decode cX9_rides 59 = .ok (.invokevirtual 152, 3) := by decide +kernel
theorem dX9_rides_62 : decode cX9_rides 62 = .ok (.ifCond .eq 25, 3) := by decide +kernel
theorem dX9_rides_65 : decode cX9_rides 65 = .ok (.iload 5, 2) := by decide +kernel
theorem dX9_rides_67 : decode cX9_rides 67 = .ok (.iload 6, 2) := by decide +kernel
theorem dX9_rides_69 : decode cX9_rides 69 = .ok (.if_icmp .eq 18, 3) := by decide +kernel
theorem dX9_rides_72 : decode cX9_rides 72 = .ok (.aload_n 0, 1) := by decide +kernel
theorem dX9_rides_73 : decode cX9_rides 73 = .ok (.iload 5, 2) := by decide +kernel
theorem dX9_rides_75 : decode cX9_rides 75 = .ok (.invokevirtual 156, 3) := by decide +kernel
theorem dX9_rides_78 : decode cX9_rides 78 = .ok (.bipush (-4), 2) := by decide +kernel
theorem dX9_rides_80 : decode cX9_rides 80 = .ok (.if_icmp .ne 7, 3) := by decide +kernel
theorem dX9_rides_83 : decode cX9_rides 83 = .ok (.iconst 1, 1) := by decide +kernel
theorem dX9_rides_84 : decode cX9_rides 84 = .ok (.goto 4, 3) := by decide +kernel
theorem dX9_rides_87 : decode cX9_rides 87 = .ok (.iconst 0, 1) := by decide +kernel
theorem dX9_rides_88 : decode cX9_rides 88 = .ok (.istore 7, 2) := by decide +kernel
theorem dX9_rides_90 : decode cX9_rides 90 = .ok (.iload 7, 2) := by decide +kernel
theorem dX9_rides_92 : decode cX9_rides 92 = .ok (.ifCond .eq 49, 3) := by decide +kernel
theorem dX9_rides_95 : decode cX9_rides 95 = .ok (.iload 4, 2) := by decide +kernel
theorem dX9_rides_97 : decode cX9_rides 97 = .ok (.bipush 64, 2) := by decide +kernel
theorem dX9_rides_99 : decode cX9_rides 99 = .ok (.if_icmp .ne 17, 3) := by decide +kernel
theorem dX9_rides_102 : decode cX9_rides 102 = .ok (.aload_n 0, 1) := by decide +kernel
theorem dX9_rides_103 : decode cX9_rides 103 = .ok (.bipush (-4), 2) := by decide +kernel
theorem dX9_rides_105 : decode cX9_rides 105 = .ok (.bipush (-4), 2) := by decide +kernel
theorem dX9_rides_107 : decode cX9_rides 107 = .ok (.invokevirtual 241, 3) := by decide +kernel
theorem dX9_rides_110 : decode cX9_rides 110 = .ok (.ifCond .eq 31, 3) := by decide +kernel
theorem dX9_rides_113 : decode cX9_rides 113 = .ok (.goto 14, 3) := by decide +kernel
theorem dX9_rides_116 : decode cX9_rides 116 = .ok (.aload_n 0, 1) := by decide +kernel
theorem dX9_rides_117 : decode cX9_rides 117 = .ok (.iload 5, 2) := by decide +kernel
theorem dX9_rides_119 : decode cX9_rides 119 = .ok (.iload 6, 2) := by decide +kernel
theorem dX9_rides_121 : decode cX9_rides 121 = .ok (.invokevirtual 241, 3) := by decide +kernel
theorem dX9_rides_124 : decode cX9_rides 124 = .ok (.ifCond .eq 17, 3) := by decide +kernel
theorem dX9_rides_127 : decode cX9_rides 127 = .ok (.iload_n 2, 1) := by decide +kernel
theorem dX9_rides_128 : decode cX9_rides 128 = .ok (.ifCond .ne 8, 3) := by decide +kernel
theorem dX9_rides_131 : decode cX9_rides 131 = .ok (.iload 4, 2) := by decide +kernel
theorem dX9_rides_133 : decode cX9_rides 133 = .ok (.goto 4, 3) := by decide +kernel
theorem dX9_rides_136 : decode cX9_rides 136 = .ok (.iload_n 3, 1) := by decide +kernel
theorem dX9_rides_137 : decode cX9_rides 137 = .ok (.istore_n 3, 1) := by decide +kernel
theorem dX9_rides_138 : decode cX9_rides 138 = .ok (.iinc 2 1, 3) := by decide +kernel
theorem dX9_rides_141 : decode cX9_rides 141 = .ok (.iinc 4 1, 3) := by decide +kernel
theorem dX9_rides_144 : decode cX9_rides 144 = .ok (.goto (-125), 3) := by decide +kernel
theorem dX9_rides_147 : decode cX9_rides 147 = .ok (.iload_n 1, 1) := by decide +kernel
theorem dX9_rides_148 : decode cX9_rides 148 = .ok (.ifCond .ne 7, 3) := by decide +kernel
theorem dX9_rides_151 : decode cX9_rides 151 = .ok (.iload_n 2, 1) := by decide +kernel
theorem dX9_rides_152 : decode cX9_rides 152 = .ok (.goto 4, 3) := by decide +kernel
theorem dX9_rides_155 : decode cX9_rides 155 = .ok (.iload_n 3, 1) := by decide +kernel
theorem dX9_rides_156 : decode cX9_rides 156 = .ok (.ireturn, 1) := by decide +kernel
theorem dX9_river_0 : decode cX9_river 0 = .ok (.iload_n 1, 1) := by decide +kernel
theorem dX9_river_1 : decode cX9_river 1 = .ok (.iconst 0, 1) := by decide +kernel
theorem dX9_river_2 : decode cX9_river 2 = .ok (.sipush 9999, 3) := by decide +kernel
theorem dX9_river_5 : decode cX9_river 5 = .ok (.invokestatic 93, 3) := by decide +kernel
theorem dX9_river_8 : decode cX9_river 8 = .ok (.ifCond .eq 12, 3) := by decide +kernel
theorem dX9_river_11 : decode cX9_river 11 = .ok (.iload_n 2, 1) := by decide +kernel
theorem dX9_river_12 : decode cX9_river 12 = .ok (.iconst 0, 1) := by decide +kernel
theorem dX9_river_13 : decode cX9_river 13 = .ok (.iconst 1, 1) := by decide +kernel
theorem dX9_river_14 : decode cX9_river 14 = .ok (.invokestatic 93, 3) := by decide +kernel
theorem dX9_river_17 : decode cX9_river 17 = .ok (.ifCond .ne 5, 3) := by decide +kernel
theorem dX9_river_20 : decode cX9_river 20 = .ok (.iconst (-1), 1) := by decide +kernel
theorem dX9_river_21 : decode cX9_river 21 = .ok (.ireturn, 1) := by decide +kernel
theorem dX9_river_22 : decode cX9_river 22 = .ok (.aload_n 0, 1) := by decide +kernel
theorem dX9_river_23 : decode cX9_river 23 = .ok (.invokevirtual 196, 3) := by decide +kernel
theorem dX9_river_26 : decode cX9_river 26 = .ok (.aload_n 0, 1) := by decide +kernel
theorem dX9_river_27 : decode cX9_river 27 = .ok (.iload_n 1, 1) := by decide +kernel
theorem dX9_river_28 : decode cX9_river 28 = .ok (.putfield 165, 3) := by decide +kernel
theorem dX9_river_31 : decode cX9_river 31 = .ok (.aload_n 0, 1) := by decide +kernel
theorem dX9_river_32 : decode cX9_river 32 = .ok (.iconst 0, 1) := by decide +kernel
theorem dX9_river_33 : decode cX9_river 33 = .ok (.sipush 200, 3) := by decide +kernel
theorem dX9_river_36 : decode cX9_river 36 = .ok (.invokevirtual 199, 3) := by decide +kernel
theorem dX9_river_39 : decode cX9_river 39 = .ok (.iconst 0, 1) := by decide +kernel
theorem dX9_river_40 : decode cX9_river 40 = .ok (.istore_n 3, 1) := by decide +kernel
theorem dX9_river_41 : decode cX9_river 41 = .ok (.iconst 0, 1) := by decide +kernel
theorem dX9_river_42 : decode cX9_river 42 = .ok (.istore 4, 2) := by decide +kernel
theorem dX9_river_44 : decode cX9_river 44 = .ok (.iload 4, 2) := by decide +kernel
theorem dX9_river_46 : decode cX9_river 46 = .ok (.aload_n 0, 1) := by decide +kernel
theorem dX9_river_47 : decode cX9_river 47 = .ok (.getfield 13, 3) := by decide +kernel
theorem dX9_river_50 : decode cX9_river 50 = .ok (.iconst 0, 1) := by decide +kernel
theorem dX9_river_51 : decode cX9_river 51 = .ok (.iaload, 1) := by decide +kernel
theorem dX9_river_52 : decode cX9_river 52 = .ok (.if_icmp .ge 45, 3) := by decide +kernel
theorem dX9_river_55 : decode cX9_river 55 = .ok (.aload_n 0, 1) := by decide +kernel
theorem dX9_river_56 : decode cX9_river 56 = .ok (.getfield 68, 3) := by decide +kernel
theorem dX9_river_59 : decode cX9_river 59 = .ok (.iload 4, 2) := by decide +kernel
theorem dX9_river_61 : decode cX9_river 61 = .ok (.iaload, 1) := by decide +kernel
theorem dX9_river_62 : decode cX9_river 62 = .ok (.sipush 999, 3) := by decide +kernel
theorem dX9_river_65 : decode cX9_river 65 = .ok (.if_icmp .eq 24, 3) := by decide +kernel
theorem dX9_river_68 : decode cX9_river 68 = .ok (.aload_n 0, 1) := by decide +kernel
theorem dX9_river_69 : decode cX9_river 69 = .ok (.getfield 68, 3) := by decide +kernel
theorem dX9_river_72 : decode cX9_river 72 = .ok (.iload 4, 2) := by decide +kernel
theorem dX9_river_74 : decode cX9_river 74 = .ok (.iaload, 1) := by decide +kernel
theorem dX9_river_75 : decode cX9_river 75 = .ok (.iload_n 3, 1) := by decide +kernel
theorem dX9_river_76 : decode cX9_river 76 = .ok (.if_icmp .le 13, 3) := by decide +kernel
theorem dX9_river_79 : decode cX9_river 79 = .ok (.aload_n 0, 1) := by decide +kernel
theorem dX9_river_80 : decode cX9_river 80 = .ok (.getfield 68, 3) := by decide +kernel
theorem dX9_river_83 : decode cX9_river 83 = .ok (.iload 4, 2) := by decide +kernel
theorem dX9_river_85 : decode cX9_river 85 = .ok (.iaload, 1) := by decide +kernel
theorem dX9_river_86 : decode cX9_river 86 = .ok (.goto 4, 3) := by decide +kernel
theorem dX9_river_89 : decode cX9_river 89 = .ok (.iload_n 3, 1) := by decide +kernel
theorem dX9_river_90 : decode cX9_river 90 = .ok (.istore_n 3, 1) := by decide +kernel
theorem dX9_river_91 : decode cX9_river 91 = .ok (.iinc 4 1, 3) := by decide +kernel
theorem dX9_river_94 : decode cX9_river 94 = .ok (.goto (-50), 3) := by decide +kernel
theorem dX9_river_97 : decode cX9_river 97 = .ok (.iload_n 2, 1) := by decide +kernel
theorem dX9_river_98 : decode cX9_river 98 = .ok (.ifCond .ne 11, 3) := by decide +kernel
theorem dX9_river_101 : decode cX9_river 101 = .ok (.aload_n 0, 1) := by decide +kernel
theorem dX9_river_102 : decode cX9_river 102 = .ok (.iconst 0, 1) := by decide +kernel
theorem dX9_river_103 : decode cX9_river 103 = .ok (.invokevirtual 232, 3) := by decide +kernel
theorem dX9_river_106 : decode cX9_river 106 = .ok (.goto 4, 3) := by decide +kernel
theorem dX9_river_109 : decode cX9_river 109 = .ok (.iload_n 3, 1) := by decide +kernel
theorem dX9_river_110 : decode cX9_river 110 = .ok (.ireturn, 1) := by decide +kernel
theorem dX9_keep_0 : decode cX9_keep 0 = .ok (.aload_n 0, 1) := by decide +kernel
theorem dX9_keep_1 : decode cX9_keep 1 = .ok (.getfield 146, 3) := by decide +kernel
theorem dX9_keep_4 : decode cX9_keep 4 = .ok (.iconst 2, 1) := by decide +kernel
theorem dX9_keep_5 : decode cX9_keep 5 = .ok (.if_icmp .ne 6, 3) := by decide +kernel
theorem dX9_keep_8 : decode cX9_keep 8 = .ok (.bipush (-3), 2) := by decide +kernel
theorem dX9_keep_10 : decode cX9_keep 10 = .ok (.ireturn, 1) := by decide +kernel
theorem dX9_keep_11 : decode cX9_keep 11 = .ok (.aload_n 0, 1) := by decide +kernel
theorem dX9_keep_12 : decode cX9_keep 12 = .ok (.iconst 0, 1) := by decide +kernel
theorem dX9_keep_13 : decode cX9_keep 13 = .ok (.sipush 144, 3) := by decide +kernel
theorem dX9_keep_16 : decode cX9_keep 16 = .ok (.bipush 16, 2) := by decide +kernel
theorem dX9_keep_18 : decode cX9_keep 18 = .ok (.aload_n 0, 1) := by decide +kernel
theorem dX9_keep_19 : decode cX9_keep 19 = .ok (.getfield 146, 3) := by decide +kernel
theorem dX9_keep_22 : decode cX9_keep 22 = .ok (.imul, 1) := by decide +kernel
theorem dX9_keep_23 : decode cX9_keep 23 = .ok (.iadd, 1) := by decide +kernel
theorem dX9_keep_24 : decode cX9_keep 24 = .ok (.invokevirtual 220, 3) := by decide +kernel
theorem dX9_keep_27 : decode cX9_keep 27 = .ok (.aload_n 0, 1) := by decide +kernel
theorem dX9_keep_28 : decode cX9_keep 28 = .ok (.dup, 1) := by decide +kernel
theorem dX9_keep_29 : decode cX9_keep 29 = .ok (.getfield 146, 3) := by decide +kernel
theorem dX9_keep_32 : decode cX9_keep 32 = .ok (.iconst 1, 1) := by decide +kernel
theorem dX9_keep_33 : decode cX9_keep 33 = .ok (.iadd, 1) := by decide +kernel
theorem dX9_keep_34 : decode cX9_keep 34 = .ok (.putfield 146, 3) := by decide +kernel
theorem dX9_keep_37 : decode cX9_keep 37 = .ok (.aload_n 0, 1) := by decide +kernel
theorem dX9_keep_38 : decode cX9_keep 38 = .ok (.getfield 146, 3) := by decide +kernel
theorem dX9_keep_41 : decode cX9_keep 41 = .ok (.ireturn, 1) := by decide +kernel
theorem dX9_restore_0 : decode cX9_restore 0 = .ok (.aload_n 0, 1) := by decide +kernel
theorem dX9_restore_1 : decode cX9_restore 1 = .ok (.getfield 146, 3) := by decide +kernel
theorem dX9_restore_4 : decode cX9_restore 4 = .ok (.ifCond .ne 6, 3) := by decide +kernel
theorem dX9_restore_7 : decode cX9_restore 7 = .ok (.bipush (-2), 2) := by decide +kernel
theorem dX9_restore_9 : decode cX9_restore 9 = .ok (.ireturn, 1) := by decide +kernel
theorem dX9_restore_10 : decode cX9_restore 10 = .ok (.aload_n 0, 1) := by decide +kernel
theorem dX9_restore_11 : decode cX9_restore 11 = .ok (.dup, 1) := by decide +kernel
theorem dX9_restore_12 : decode cX9_restore 12 = .ok (.getfield 146, 3) := by decide +kernel
theorem dX9_restore_15 : decode cX9_restore 15 = .ok (.iconst 1, 1) := by decide +kernel
theorem dX9_restore_16 : decode cX9_restore 16 = .ok (.isub, 1) := by decide +kernel
theorem dX9_restore_17 : decode cX9_restore 17 = .ok (.putfield 146, 3) := by decide +kernel
theorem dX9_restore_20 : decode cX9_restore 20 = .ok (.aload_n 0, 1) := by decide +kernel
theorem dX9_restore_21 : decode cX9_restore 21 = .ok (.sipush 144, 3) := by decide +kernel
theorem dX9_restore_24 : decode cX9_restore 24 = .ok (.bipush 16, 2) := by decide +kernel
theorem dX9_restore_26 : decode cX9_restore 26 = .ok (.aload_n 0, 1) := by decide +kernel
theorem dX9_restore_27 : decode cX9_restore 27 = .ok (.getfield 146, 3) := by decide +kernel
theorem dX9_restore_30 : decode cX9_restore 30 = .ok (.imul, 1) := by decide +kernel
theorem dX9_restore_31 : decode cX9_restore 31 = .ok (.iadd, 1) := by decide +kernel
theorem dX9_restore_32 : decode cX9_restore 32 = .ok (.iconst 0, 1) := by decide +kernel
theorem dX9_restore_33 : decode cX9_restore 33 = .ok (.invokevirtual 220, 3) := by decide +kernel
theorem dX9_restore_36 : decode cX9_restore 36 = .ok (.aload_n 0, 1) := by decide +kernel
theorem dX9_restore_37 : decode cX9_restore 37 = .ok (.iconst 0, 1) := by decide +kernel
theorem dX9_restore_38 : decode cX9_restore 38 = .ok (.putfield 143, 3) := by decide +kernel
theorem dX9_restore_41 : decode cX9_restore 41 = .ok (.aload_n 0, 1) := by decide +kernel
theorem dX9_restore_42 : decode cX9_restore 42 = .ok (.getfield 146, 3) := by decide +kernel
theorem dX9_restore_45 : decode cX9_restore 45 = .ok (.ireturn, 1) := by decide +kernel
theorem dX9_count_0 : decode cX9_count 0 = .ok (.iconst 0, 1) := by decide +kernel
theorem dX9_count_1 : decode cX9_count 1 = .ok (.istore_n 2, 1) := by decide +kernel
theorem dX9_count_2 : decode cX9_count 2 = .ok (.iconst 0, 1) := by decide +kernel
theorem dX9_count_3 : decode cX9_count 3 = .ok (.istore_n 3, 1) := by decide +kernel
theorem dX9_count_4 : decode cX9_count 4 = .ok (.iload_n 3, 1) := by decide +kernel
theorem dX9_count_5 : decode cX9_count 5 = .ok (.aload_n 0, 1) := by decide +kernel
theorem dX9_count_6 : decode cX9_count 6 = .ok (.getfield 13, 3) := by decide +kernel
theorem dX9_count_9 : decode cX9_count 9 = .ok (.iconst 0, 1) := by decide +kernel
theorem dX9_count_10 : decode cX9_count 10 = .ok (.iaload, 1) := by decide +kernel
theorem dX9_count_11 : decode cX9_count 11 = .ok (.if_icmp .ge 31, 3) := by decide +kernel
theorem dX9_count_14 : decode cX9_count 14 = .ok (.iload_n 2, 1) := by decide +kernel
theorem dX9_count_15 : decode cX9_count 15 = .ok (.aload_n 0, 1) := by decide +kernel
theorem dX9_count_16 : decode cX9_count 16 = .ok (.getfield 62, 3) := by decide +kernel
theorem dX9_count_19 : decode cX9_count 19 = .ok (.bipush 8, 2) := by decide +kernel
theorem dX9_count_21 : decode cX9_count 21 = .ok (.iload_n 3, 1) := by decide +kernel
theorem dX9_count_22 : decode cX9_count 22 = .ok (.iadd, 1) := by decide +kernel
theorem dX9_count_23 : decode cX9_count 23 = .ok (.iaload, 1) := by decide +kernel
theorem dX9_count_24 : decode cX9_count 24 = .ok (.bipush (-4), 2) := by decide +kernel
theorem dX9_count_26 : decode cX9_count 26 = .ok (.if_icmp .ne 7, 3) := by decide +kernel
theorem dX9_count_29 : decode cX9_count 29 = .ok (.iconst 0, 1) := by decide +kernel
theorem dX9_count_30 : decode cX9_count 30 = .ok (.goto 4, 3) := by decide +kernel
theorem dX9_count_33 : decode cX9_count 33 = .ok (.iconst 1, 1) := by decide +kernel
theorem dX9_count_34 : decode cX9_count 34 = .ok (.iadd, 1) := by decide +kernel
theorem dX9_count_35 : decode cX9_count 35 = .ok (.istore_n 2, 1) := by decide +kernel
theorem dX9_count_36 : decode cX9_count 36 = .ok (.iinc 3 1, 3) := by decide +kernel
theorem dX9_count_39 : decode cX9_count 39 = .ok (.goto (-35), 3) := by decide +kernel
theorem dX9_count_42 : decode cX9_count 42 = .ok (.iload_n 1, 1) := by decide +kernel
theorem dX9_count_43 : decode cX9_count 43 = .ok (.tableswitch 99 0 8 #[49, 56, 63, 70, 77, 79, 84, 89, 94], 49) := by decide +kernel
theorem dX9_count_92 : decode cX9_count 92 = .ok (.aload_n 0, 1) := by decide +kernel
theorem dX9_count_93 : decode cX9_count 93 = .ok (.getfield 13, 3) := by decide +kernel
theorem dX9_count_96 : decode cX9_count 96 = .ok (.iconst 0, 1) := by decide +kernel
theorem dX9_count_97 : decode cX9_count 97 = .ok (.iaload, 1) := by decide +kernel
theorem dX9_count_98 : decode cX9_count 98 = .ok (.ireturn, 1) := by decide +kernel
theorem dX9_count_99 : decode cX9_count 99 = .ok (.aload_n 0, 1) := by decide +kernel
theorem dX9_count_100 : decode cX9_count 100 = .ok (.getfield 29, 3) := by decide +kernel
theorem dX9_count_103 : decode cX9_count 103 = .ok (.iconst 0, 1) := by decide +kernel
theorem dX9_count_104 : decode cX9_count 104 = .ok (.iaload, 1) := by decide +kernel
theorem dX9_count_105 : decode cX9_count 105 = .ok (.ireturn, 1) := by decide +kernel
theorem dX9_count_106 : decode cX9_count 106 = .ok (.aload_n 0, 1) := by decide +kernel
theorem dX9_count_107 : decode cX9_count 107 = .ok (.getfield 32, 3) := by decide +kernel
theorem dX9_count_110 : decode cX9_count 110 = .ok (.iconst 0, 1) := by decide +kernel
theorem dX9_count_111 : decode cX9_count 111 = .ok (.iaload, 1) := by decide +kernel
theorem dX9_count_112 : decode cX9_count 112 = .ok (.ireturn, 1) := by decide +kernel
theorem dX9_count_113 : decode cX9_count 113 = .ok (.aload_n 0, 1) := by decide +kernel
theorem dX9_count_114 : decode cX9_count 114 = .ok (.getfield 44, 3) := by decide +kernel
theorem dX9_count_117 : decode cX9_count 117 = .ok (.iconst 0, 1) := by decide +kernel
theorem dX9_count_118 : decode cX9_count 118 = .ok (.iaload, 1) := by decide +kernel
theorem dX9_count_119 : decode cX9_count 119 = .ok (.ireturn, 1) := by decide +kernel
theorem dX9_count_120 : decode cX9_count 120 = .ok (.iload_n 2, 1) := by decide +kernel
theorem dX9_count_121 : decode cX9_count 121 = .ok (.ireturn, 1) := by decide +kernel
theorem dX9_count_122 : decode cX9_count 122 = .ok (.aload_n 0, 1) := by decide +kernel
theorem dX9_count_123 : decode cX9_count 123 = .ok (.getfield 149, 3) := by decide +kernel
theorem dX9_count_126 : decode cX9_count 126 = .ok (.ireturn, 1) := by decide +kernel
theorem dX9_count_127 : decode cX9_count 127 = .ok (.aload_n 0, 1) := by decide +kernel
theorem dX9_count_128 : decode cX9_count 128 = .ok (.getfield 143, 3) := by decide +kernel
theorem dX9_count_131 : decode cX9_count 131 = .ok (.ireturn, 1) := by decide +kernel
theorem dX9_count_132 : decode cX9_count 132 = .ok (.aload_n 0, 1) := by decide +kernel
theorem dX9_count_133 : decode cX9_count 133 = .ok (.getfield 146, 3) := by decide +kernel
theorem dX9_count_136 : decode cX9_count 136 = .ok (.ireturn, 1) := by decide +kernel
theorem dX9_count_137 : decode cX9_count 137 = .ok (.aload_n 0, 1) := by decide +kernel
theorem dX9_count_138 : decode cX9_count 138 = .ok (.getfield 97, 3) := by decide +kernel
theorem dX9_count_141 : decode cX9_count 141 = .ok (.ireturn, 1) := by decide +kernel
theorem dX9_count_142 : decode cX9_count 142 = .ok (.iconst (-1), 1) := by decide +kernel
theorem dX9_count_143 : decode cX9_count 143 = .ok (.ireturn, 1) := by decide +kernel
end
section
theorem dL_law_0 : decode cL_law 0 = .ok (.new 7, 3) := by decide +kernel
theorem dL_law_3 : decode cL_law 3 = .ok (.dup, 1) := by decide +kernel
theorem dL_law_4 : decode cL_law 4 = .ok (.invokespecial 9, 3) := by decide +kernel
theorem dL_law_7 : decode cL_law 7 = .ok (.astore_n 1, 1) := by decide +kernel
theorem dL_law_8 : decode cL_law 8 = .ok (.new 10, 3) := by decide +kernel
theorem dL_law_11 : decode cL_law 11 = .ok (.dup, 1) := by decide +kernel
theorem dL_law_12 : decode cL_law 12 = .ok (.invokespecial 12, 3) := by decide +kernel
theorem dL_law_15 : decode cL_law 15 = .ok (.astore_n 2, 1) := by decide +kernel
theorem dL_law_16 : decode cL_law 16 = .ok (.iconst 0, 1) := by decide +kernel
theorem dL_law_17 : decode cL_law 17 = .ok (.istore_n 3, 1) := by decide +kernel
theorem dL_law_18 : decode cL_law 18 = .ok (.iload_n 3, 1) := by decide +kernel
theorem dL_law_19 : decode cL_law 19 = .ok (.aload_n 0, 1) := by decide +kernel
theorem dL_law_20 : decode cL_law 20 = .ok (.arraylength, 1) := by decide +kernel
theorem dL_law_21 : decode cL_law 21 = .ok (.iconst 5, 1) := by decide +kernel
theorem dL_law_22 : decode cL_law 22 = .ok (.isub, 1) := by decide +kernel
theorem dL_law_23 : decode cL_law 23 = .ok (.if_icmp .gt 834, 3) := by decide +kernel
theorem dL_law_26 : decode cL_law 26 = .ok (.aload_n 0, 1) := by decide +kernel
theorem dL_law_27 : decode cL_law 27 = .ok (.iload_n 3, 1) := by decide +kernel
theorem dL_law_28 : decode cL_law 28 = .ok (.iaload, 1) := by decide +kernel
theorem dL_law_29 : decode cL_law 29 = .ok (.bipush 31, 2) := by decide +kernel
theorem dL_law_31 : decode cL_law 31 = .ok (.iand, 1) := by decide +kernel
theorem dL_law_32 : decode cL_law 32 = .ok (.tableswitch 819 0 28 #[132, 155, 168, 181, 194, 227, 250, 283, 306, 329, 352, 385, 418, 441, 454, 477, 510, 523, 546, 569, 592, 615, 668, 701, 714, 737, 770, 783, 796], 132) := by decide +kernel
theorem dL_law_164 : decode cL_law 164 = .ok (.aload_n 1, 1) := by decide +kernel
theorem dL_law_165 : decode cL_law 165 = .ok (.aload_n 0, 1) := by decide +kernel
theorem dL_law_166 : decode cL_law 166 = .ok (.iload_n 3, 1) := by decide +kernel
theorem dL_law_167 : decode cL_law 167 = .ok (.iconst 1, 1) := by decide +kernel
theorem dL_law_168 : decode cL_law 168 = .ok (.iadd, 1) := by decide +kernel
theorem dL_law_169 : decode cL_law 169 = .ok (.iaload, 1) := by decide +kernel
theorem dL_law_170 : decode cL_law 170 = .ok (.invokevirtual 13, 3) := by decide +kernel
theorem dL_law_173 : decode cL_law 173 = .ok (.aload_n 2, 1) := by decide +kernel
theorem dL_law_174 : decode cL_law 174 = .ok (.aload_n 0, 1) := by decide +kernel
theorem dL_law_175 : decode cL_law 175 = .ok (.iload_n 3, 1) := by decide +kernel
theorem dL_law_176 : decode cL_law 176 = .ok (.iconst 1, 1) := by decide +kernel
theorem dL_law_177 : decode cL_law 177 = .ok (.iadd, 1) := by decide +kernel
theorem dL_law_178 : decode cL_law 178 = .ok (.iaload, 1) := by decide +kernel
theorem dL_law_179 : decode cL_law 179 = .ok (.invokevirtual 17, 3) := by decide +kernel
theorem dL_law_182 : decode cL_law 182 = .ok (.if_icmp .eq 669, 3) := by decide +kernel
theorem dL_law_185 : decode cL_law 185 = .ok (.iconst 0, 1) := by decide +kernel
theorem dL_law_186 : decode cL_law 186 = .ok (.ireturn, 1) := by decide +kernel
theorem dL_law_187 : decode cL_law 187 = .ok (.aload_n 1, 1) := by decide +kernel
theorem dL_law_188 : decode cL_law 188 = .ok (.invokevirtual 18, 3) := by decide +kernel
theorem dL_law_191 : decode cL_law 191 = .ok (.aload_n 2, 1) := by decide +kernel
theorem dL_law_192 : decode cL_law 192 = .ok (.invokevirtual 22, 3) := by decide +kernel
theorem dL_law_195 : decode cL_law 195 = .ok (.if_icmp .eq 656, 3) := by decide +kernel
theorem dL_law_198 : decode cL_law 198 = .ok (.iconst 0, 1) := by decide +kernel
theorem dL_law_199 : decode cL_law 199 = .ok (.ireturn, 1) := by decide +kernel
theorem dL_law_200 : decode cL_law 200 = .ok (.aload_n 1, 1) := by decide +kernel
theorem dL_law_201 : decode cL_law 201 = .ok (.invokevirtual 23, 3) := by decide +kernel
theorem dL_law_204 : decode cL_law 204 = .ok (.aload_n 2, 1) := by decide +kernel
theorem dL_law_205 : decode cL_law 205 = .ok (.invokevirtual 26, 3) := by decide +kernel
theorem dL_law_208 : decode cL_law 208 = .ok (.if_icmp .eq 643, 3) := by decide +kernel
theorem dL_law_211 : decode cL_law 211 = .ok (.iconst 0, 1) := by decide +kernel
theorem dL_law_212 : decode cL_law 212 = .ok (.ireturn, 1) := by decide +kernel
theorem dL_law_213 : decode cL_law 213 = .ok (.aload_n 1, 1) := by decide +kernel
theorem dL_law_214 : decode cL_law 214 = .ok (.invokevirtual 27, 3) := by decide +kernel
theorem dL_law_217 : decode cL_law 217 = .ok (.aload_n 2, 1) := by decide +kernel
theorem dL_law_218 : decode cL_law 218 = .ok (.invokevirtual 30, 3) := by decide +kernel
theorem dL_law_221 : decode cL_law 221 = .ok (.if_icmp .eq 630, 3) := by decide +kernel
theorem dL_law_224 : decode cL_law 224 = .ok (.iconst 0, 1) := by decide +kernel
theorem dL_law_225 : decode cL_law 225 = .ok (.ireturn, 1) := by decide +kernel
theorem dL_law_226 : decode cL_law 226 = .ok (.aload_n 1, 1) := by decide +kernel
theorem dL_law_227 : decode cL_law 227 = .ok (.aload_n 0, 1) := by decide +kernel
theorem dL_law_228 : decode cL_law 228 = .ok (.iload_n 3, 1) := by decide +kernel
theorem dL_law_229 : decode cL_law 229 = .ok (.iconst 1, 1) := by decide +kernel
theorem dL_law_230 : decode cL_law 230 = .ok (.iadd, 1) := by decide +kernel
theorem dL_law_231 : decode cL_law 231 = .ok (.iaload, 1) := by decide +kernel
theorem dL_law_232 : decode cL_law 232 = .ok (.aload_n 0, 1) := by decide +kernel
theorem dL_law_233 : decode cL_law 233 = .ok (.iload_n 3, 1) := by decide +kernel
theorem dL_law_234 : decode cL_law 234 = .ok (.iconst 2, 1) := by decide +kernel
theorem dL_law_235 : decode cL_law 235 = .ok (.iadd, 1) := by decide +kernel
theorem dL_law_236 : decode cL_law 236 = .ok (.iaload, 1) := by decide +kernel
theorem dL_law_237 : decode cL_law 237 = .ok (.invokevirtual 31, 3) := by decide +kernel
theorem dL_law_240 : decode cL_law 240 = .ok (.aload_n 2, 1) := by decide +kernel
theorem dL_law_241 : decode cL_law 241 = .ok (.aload_n 0, 1) := by decide +kernel
theorem dL_law_242 : decode cL_law 242 = .ok (.iload_n 3, 1) := by decide +kernel
theorem dL_law_243 : decode cL_law 243 = .ok (.iconst 1, 1) := by decide +kernel
theorem dL_law_244 : decode cL_law 244 = .ok (.iadd, 1) := by decide +kernel
theorem dL_law_245 : decode cL_law 245 = .ok (.iaload, 1) := by decide +kernel
theorem dL_law_246 : decode cL_law 246 = .ok (.aload_n 0, 1) := by decide +kernel
theorem dL_law_247 : decode cL_law 247 = .ok (.iload_n 3, 1) := by decide +kernel
theorem dL_law_248 : decode cL_law 248 = .ok (.iconst 2, 1) := by decide +kernel
theorem dL_law_249 : decode cL_law 249 = .ok (.iadd, 1) := by decide +kernel
theorem dL_law_250 : decode cL_law 250 = .ok (.iaload, 1) := by decide +kernel
theorem dL_law_251 : decode cL_law 251 = .ok (.invokevirtual 35, 3) := by decide +kernel
theorem dL_law_254 : decode cL_law 254 = .ok (.if_icmp .eq 597, 3) := by decide +kernel
theorem dL_law_257 : decode cL_law 257 = .ok (.iconst 0, 1) := by decide +kernel
theorem dL_law_258 : decode cL_law 258 = .ok (.ireturn, 1) := by decide +kernel
theorem dL_law_259 : decode cL_law 259 = .ok (.aload_n 1, 1) := by decide +kernel
theorem dL_law_260 : decode cL_law 260 = .ok (.aload_n 0, 1) := by decide +kernel
theorem dL_law_261 : decode cL_law 261 = .ok (.iload_n 3, 1) := by decide +kernel
theorem dL_law_262 : decode cL_law 262 = .ok (.iconst 1, 1) := by decide +kernel
theorem dL_law_263 : decode cL_law 263 = .ok (.iadd, 1) := by decide +kernel
theorem dL_law_264 : decode cL_law 264 = .ok (.iaload, 1) := by decide +kernel
theorem dL_law_265 : decode cL_law 265 = .ok (.invokevirtual 36, 3) := by decide +kernel
theorem dL_law_268 : decode cL_law 268 = .ok (.aload_n 2, 1) := by decide +kernel
theorem dL_law_269 : decode cL_law 269 = .ok (.aload_n 0, 1) := by decide +kernel
theorem dL_law_270 : decode cL_law 270 = .ok (.iload_n 3, 1) := by decide +kernel
theorem dL_law_271 : decode cL_law 271 = .ok (.iconst 1, 1) := by decide +kernel
theorem dL_law_272 : decode cL_law 272 = .ok (.iadd, 1) := by decide +kernel
theorem dL_law_273 : decode cL_law 273 = .ok (.iaload, 1) := by decide +kernel
theorem dL_law_274 : decode cL_law 274 = .ok (.invokevirtual 39, 3) := by decide +kernel
theorem dL_law_277 : decode cL_law 277 = .ok (.if_icmp .eq 574, 3) := by decide +kernel
theorem dL_law_280 : decode cL_law 280 = .ok (.iconst 0, 1) := by decide +kernel
theorem dL_law_281 : decode cL_law 281 = .ok (.ireturn, 1) := by decide +kernel
theorem dL_law_282 : decode cL_law 282 = .ok (.aload_n 1, 1) := by decide +kernel
theorem dL_law_283 : decode cL_law 283 = .ok (.aload_n 0, 1) := by decide +kernel
theorem dL_law_284 : decode cL_law 284 = .ok (.iload_n 3, 1) := by decide +kernel
theorem dL_law_285 : decode cL_law 285 = .ok (.iconst 1, 1) := by decide +kernel
theorem dL_law_286 : decode cL_law 286 = .ok (.iadd, 1) := by decide +kernel
theorem dL_law_287 : decode cL_law 287 = .ok (.iaload, 1) := by decide +kernel
theorem dL_law_288 : decode cL_law 288 = .ok (.aload_n 0, 1) := by decide +kernel
theorem dL_law_289 : decode cL_law 289 = .ok (.iload_n 3, 1) := by decide +kernel
theorem dL_law_290 : decode cL_law 290 = .ok (.iconst 2, 1) := by decide +kernel
theorem dL_law_291 : decode cL_law 291 = .ok (.iadd, 1) := by decide +kernel
theorem dL_law_292 : decode cL_law 292 = .ok (.iaload, 1) := by decide +kernel
theorem dL_law_293 : decode cL_law 293 = .ok (.invokevirtual 40, 3) := by decide +kernel
theorem dL_law_296 : decode cL_law 296 = .ok (.aload_n 2, 1) := by decide +kernel
theorem dL_law_297 : decode cL_law 297 = .ok (.aload_n 0, 1) := by decide +kernel
theorem dL_law_298 : decode cL_law 298 = .ok (.iload_n 3, 1) := by decide +kernel
theorem dL_law_299 : decode cL_law 299 = .ok (.iconst 1, 1) := by decide +kernel
theorem dL_law_300 : decode cL_law 300 = .ok (.iadd, 1) := by decide +kernel
theorem dL_law_301 : decode cL_law 301 = .ok (.iaload, 1) := by decide +kernel
theorem dL_law_302 : decode cL_law 302 = .ok (.aload_n 0, 1) := by decide +kernel
theorem dL_law_303 : decode cL_law 303 = .ok (.iload_n 3, 1) := by decide +kernel
theorem dL_law_304 : decode cL_law 304 = .ok (.iconst 2, 1) := by decide +kernel
theorem dL_law_305 : decode cL_law 305 = .ok (.iadd, 1) := by decide +kernel
theorem dL_law_306 : decode cL_law 306 = .ok (.iaload, 1) := by decide +kernel
theorem dL_law_307 : decode cL_law 307 = .ok (.invokevirtual 43, 3) := by decide +kernel
theorem dL_law_310 : decode cL_law 310 = .ok (.if_icmp .eq 541, 3) := by decide +kernel
theorem dL_law_313 : decode cL_law 313 = .ok (.iconst 0, 1) := by decide +kernel
theorem dL_law_314 : decode cL_law 314 = .ok (.ireturn, 1) := by decide +kernel
theorem dL_law_315 : decode cL_law 315 = .ok (.aload_n 1, 1) := by decide +kernel
theorem dL_law_316 : decode cL_law 316 = .ok (.aload_n 0, 1) := by decide +kernel
theorem dL_law_317 : decode cL_law 317 = .ok (.iload_n 3, 1) := by decide +kernel
theorem dL_law_318 : decode cL_law 318 = .ok (.iconst 1, 1) := by decide +kernel
theorem dL_law_319 : decode cL_law 319 = .ok (.iadd, 1) := by decide +kernel
theorem dL_law_320 : decode cL_law 320 = .ok (.iaload, 1) := by decide +kernel
theorem dL_law_321 : decode cL_law 321 = .ok (.invokevirtual 44, 3) := by decide +kernel
theorem dL_law_324 : decode cL_law 324 = .ok (.aload_n 2, 1) := by decide +kernel
theorem dL_law_325 : decode cL_law 325 = .ok (.aload_n 0, 1) := by decide +kernel
theorem dL_law_326 : decode cL_law 326 = .ok (.iload_n 3, 1) := by decide +kernel
theorem dL_law_327 : decode cL_law 327 = .ok (.iconst 1, 1) := by decide +kernel
theorem dL_law_328 : decode cL_law 328 = .ok (.iadd, 1) := by decide +kernel
theorem dL_law_329 : decode cL_law 329 = .ok (.iaload, 1) := by decide +kernel
theorem dL_law_330 : decode cL_law 330 = .ok (.invokevirtual 47, 3) := by decide +kernel
theorem dL_law_333 : decode cL_law 333 = .ok (.if_icmp .eq 518, 3) := by decide +kernel
theorem dL_law_336 : decode cL_law 336 = .ok (.iconst 0, 1) := by decide +kernel
theorem dL_law_337 : decode cL_law 337 = .ok (.ireturn, 1) := by decide +kernel
theorem dL_law_338 : decode cL_law 338 = .ok (.aload_n 1, 1) := by decide +kernel
theorem dL_law_339 : decode cL_law 339 = .ok (.aload_n 0, 1) := by decide +kernel
theorem dL_law_340 : decode cL_law 340 = .ok (.iload_n 3, 1) := by decide +kernel
theorem dL_law_341 : decode cL_law 341 = .ok (.iconst 1, 1) := by decide +kernel
theorem dL_law_342 : decode cL_law 342 = .ok (.iadd, 1) := by decide +kernel
theorem dL_law_343 : decode cL_law 343 = .ok (.iaload, 1) := by decide +kernel
theorem dL_law_344 : decode cL_law 344 = .ok (.invokevirtual 48, 3) := by decide +kernel
theorem dL_law_347 : decode cL_law 347 = .ok (.aload_n 2, 1) := by decide +kernel
theorem dL_law_348 : decode cL_law 348 = .ok (.aload_n 0, 1) := by decide +kernel
theorem dL_law_349 : decode cL_law 349 = .ok (.iload_n 3, 1) := by decide +kernel
theorem dL_law_350 : decode cL_law 350 = .ok (.iconst 1, 1) := by decide +kernel
theorem dL_law_351 : decode cL_law 351 = .ok (.iadd, 1) := by decide +kernel
theorem dL_law_352 : decode cL_law 352 = .ok (.iaload, 1) := by decide +kernel
theorem dL_law_353 : decode cL_law 353 = .ok (.invokevirtual 51, 3) := by decide +kernel
theorem dL_law_356 : decode cL_law 356 = .ok (.if_icmp .eq 495, 3) := by decide +kernel
theorem dL_law_359 : decode cL_law 359 = .ok (.iconst 0, 1) := by decide +kernel
theorem dL_law_360 : decode cL_law 360 = .ok (.ireturn, 1) := by decide +kernel
theorem dL_law_361 : decode cL_law 361 = .ok (.aload_n 1, 1) := by decide +kernel
theorem dL_law_362 : decode cL_law 362 = .ok (.aload_n 0, 1) := by decide +kernel
theorem dL_law_363 : decode cL_law 363 = .ok (.iload_n 3, 1) := by decide +kernel
theorem dL_law_364 : decode cL_law 364 = .ok (.iconst 1, 1) := by decide +kernel
theorem dL_law_365 : decode cL_law 365 = .ok (.iadd, 1) := by decide +kernel
theorem dL_law_366 : decode cL_law 366 = .ok (.iaload, 1) := by decide +kernel
theorem dL_law_367 : decode cL_law 367 = .ok (.invokevirtual 52, 3) := by decide +kernel
theorem dL_law_370 : decode cL_law 370 = .ok (.aload_n 2, 1) := by decide +kernel
theorem dL_law_371 : decode cL_law 371 = .ok (.aload_n 0, 1) := by decide +kernel
theorem dL_law_372 : decode cL_law 372 = .ok (.iload_n 3, 1) := by decide +kernel
theorem dL_law_373 : decode cL_law 373 = .ok (.iconst 1, 1) := by decide +kernel
theorem dL_law_374 : decode cL_law 374 = .ok (.iadd, 1) := by decide +kernel
theorem dL_law_375 : decode cL_law 375 = .ok (.iaload, 1) := by decide +kernel
theorem dL_law_376 : decode cL_law 376 = .ok (.invokevirtual 55, 3) := by decide +kernel
theorem dL_law_379 : decode cL_law 379 = .ok (.if_icmp .eq 472, 3) := by decide +kernel
theorem dL_law_382 : decode cL_law 382 = .ok (.iconst 0, 1) := by decide +kernel
theorem dL_law_383 : decode cL_law 383 = .ok (.ireturn, 1) := by decide +kernel
theorem dL_law_384 : decode cL_law 384 = .ok (.aload_n 1, 1) := by decide +kernel
theorem dL_law_385 : decode cL_law 385 = .ok (.aload_n 0, 1) := by decide +kernel
theorem dL_law_386 : decode cL_law 386 = .ok (.iload_n 3, 1) := by decide +kernel
theorem dL_law_387 : decode cL_law 387 = .ok (.iconst 1, 1) := by decide +kernel
theorem dL_law_388 : decode cL_law 388 = .ok (.iadd, 1) := by decide +kernel
theorem dL_law_389 : decode cL_law 389 = .ok (.iaload, 1) := by decide +kernel
theorem dL_law_390 : decode cL_law 390 = .ok (.aload_n 0, 1) := by decide +kernel
theorem dL_law_391 : decode cL_law 391 = .ok (.iload_n 3, 1) := by decide +kernel
theorem dL_law_392 : decode cL_law 392 = .ok (.iconst 2, 1) := by decide +kernel
theorem dL_law_393 : decode cL_law 393 = .ok (.iadd, 1) := by decide +kernel
theorem dL_law_394 : decode cL_law 394 = .ok (.iaload, 1) := by decide +kernel
theorem dL_law_395 : decode cL_law 395 = .ok (.invokevirtual 56, 3) := by decide +kernel
theorem dL_law_398 : decode cL_law 398 = .ok (.aload_n 2, 1) := by decide +kernel
theorem dL_law_399 : decode cL_law 399 = .ok (.aload_n 0, 1) := by decide +kernel
theorem dL_law_400 : decode cL_law 400 = .ok (.iload_n 3, 1) := by decide +kernel
theorem dL_law_401 : decode cL_law 401 = .ok (.iconst 1, 1) := by decide +kernel
theorem dL_law_402 : decode cL_law 402 = .ok (.iadd, 1) := by decide +kernel
theorem dL_law_403 : decode cL_law 403 = .ok (.iaload, 1) := by decide +kernel
theorem dL_law_404 : decode cL_law 404 = .ok (.aload_n 0, 1) := by decide +kernel
theorem dL_law_405 : decode cL_law 405 = .ok (.iload_n 3, 1) := by decide +kernel
theorem dL_law_406 : decode cL_law 406 = .ok (.iconst 2, 1) := by decide +kernel
theorem dL_law_407 : decode cL_law 407 = .ok (.iadd, 1) := by decide +kernel
theorem dL_law_408 : decode cL_law 408 = .ok (.iaload, 1) := by decide +kernel
theorem dL_law_409 : decode cL_law 409 = .ok (.invokevirtual 59, 3) := by decide +kernel
theorem dL_law_412 : decode cL_law 412 = .ok (.if_icmp .eq 439, 3) := by decide +kernel
theorem dL_law_415 : decode cL_law 415 = .ok (.iconst 0, 1) := by decide +kernel
theorem dL_law_416 : decode cL_law 416 = .ok (.ireturn, 1) := by decide +kernel
theorem dL_law_417 : decode cL_law 417 = .ok (.aload_n 1, 1) := by decide +kernel
theorem dL_law_418 : decode cL_law 418 = .ok (.aload_n 0, 1) := by decide +kernel
theorem dL_law_419 : decode cL_law 419 = .ok (.iload_n 3, 1) := by decide +kernel
theorem dL_law_420 : decode cL_law 420 = .ok (.iconst 1, 1) := by decide +kernel
theorem dL_law_421 : decode cL_law 421 = .ok (.iadd, 1) := by decide +kernel
theorem dL_law_422 : decode cL_law 422 = .ok (.iaload, 1) := by decide +kernel
theorem dL_law_423 : decode cL_law 423 = .ok (.aload_n 0, 1) := by decide +kernel
theorem dL_law_424 : decode cL_law 424 = .ok (.iload_n 3, 1) := by decide +kernel
theorem dL_law_425 : decode cL_law 425 = .ok (.iconst 2, 1) := by decide +kernel
theorem dL_law_426 : decode cL_law 426 = .ok (.iadd, 1) := by decide +kernel
theorem dL_law_427 : decode cL_law 427 = .ok (.iaload, 1) := by decide +kernel
theorem dL_law_428 : decode cL_law 428 = .ok (.invokevirtual 60, 3) := by decide +kernel
theorem dL_law_431 : decode cL_law 431 = .ok (.aload_n 2, 1) := by decide +kernel
theorem dL_law_432 : decode cL_law 432 = .ok (.aload_n 0, 1) := by decide +kernel
theorem dL_law_433 : decode cL_law 433 = .ok (.iload_n 3, 1) := by decide +kernel
theorem dL_law_434 : decode cL_law 434 = .ok (.iconst 1, 1) := by decide +kernel
theorem dL_law_435 : decode cL_law 435 = .ok (.iadd, 1) := by decide +kernel
theorem dL_law_436 : decode cL_law 436 = .ok (.iaload, 1) := by decide +kernel
theorem dL_law_437 : decode cL_law 437 = .ok (.aload_n 0, 1) := by decide +kernel
theorem dL_law_438 : decode cL_law 438 = .ok (.iload_n 3, 1) := by decide +kernel
theorem dL_law_439 : decode cL_law 439 = .ok (.iconst 2, 1) := by decide +kernel
theorem dL_law_440 : decode cL_law 440 = .ok (.iadd, 1) := by decide +kernel
theorem dL_law_441 : decode cL_law 441 = .ok (.iaload, 1) := by decide +kernel
theorem dL_law_442 : decode cL_law 442 = .ok (.invokevirtual 63, 3) := by decide +kernel
theorem dL_law_445 : decode cL_law 445 = .ok (.if_icmp .eq 406, 3) := by decide +kernel
theorem dL_law_448 : decode cL_law 448 = .ok (.iconst 0, 1) := by decide +kernel
theorem dL_law_449 : decode cL_law 449 = .ok (.ireturn, 1) := by decide +kernel
theorem dL_law_450 : decode cL_law 450 = .ok (.aload_n 1, 1) := by decide +kernel
theorem dL_law_451 : decode cL_law 451 = .ok (.aload_n 0, 1) := by decide +kernel
theorem dL_law_452 : decode cL_law 452 = .ok (.iload_n 3, 1) := by decide +kernel
theorem dL_law_453 : decode cL_law 453 = .ok (.iconst 1, 1) := by decide +kernel
theorem dL_law_454 : decode cL_law 454 = .ok (.iadd, 1) := by decide +kernel
theorem dL_law_455 : decode cL_law 455 = .ok (.iaload, 1) := by decide +kernel
theorem dL_law_456 : decode cL_law 456 = .ok (.invokevirtual 64, 3) := by decide +kernel
theorem dL_law_459 : decode cL_law 459 = .ok (.aload_n 2, 1) := by decide +kernel
theorem dL_law_460 : decode cL_law 460 = .ok (.aload_n 0, 1) := by decide +kernel
theorem dL_law_461 : decode cL_law 461 = .ok (.iload_n 3, 1) := by decide +kernel
theorem dL_law_462 : decode cL_law 462 = .ok (.iconst 1, 1) := by decide +kernel
theorem dL_law_463 : decode cL_law 463 = .ok (.iadd, 1) := by decide +kernel
theorem dL_law_464 : decode cL_law 464 = .ok (.iaload, 1) := by decide +kernel
theorem dL_law_465 : decode cL_law 465 = .ok (.invokevirtual 67, 3) := by decide +kernel
theorem dL_law_468 : decode cL_law 468 = .ok (.if_icmp .eq 383, 3) := by decide +kernel
theorem dL_law_471 : decode cL_law 471 = .ok (.iconst 0, 1) := by decide +kernel
theorem dL_law_472 : decode cL_law 472 = .ok (.ireturn, 1) := by decide +kernel
theorem dL_law_473 : decode cL_law 473 = .ok (.aload_n 1, 1) := by decide +kernel
theorem dL_law_474 : decode cL_law 474 = .ok (.invokevirtual 68, 3) := by decide +kernel
theorem dL_law_477 : decode cL_law 477 = .ok (.aload_n 2, 1) := by decide +kernel
theorem dL_law_478 : decode cL_law 478 = .ok (.invokevirtual 71, 3) := by decide +kernel
theorem dL_law_481 : decode cL_law 481 = .ok (.if_icmp .eq 370, 3) := by decide +kernel
theorem dL_law_484 : decode cL_law 484 = .ok (.iconst 0, 1) := by decide +kernel
theorem dL_law_485 : decode cL_law 485 = .ok (.ireturn, 1) := by decide +kernel
theorem dL_law_486 : decode cL_law 486 = .ok (.aload_n 1, 1) := by decide +kernel
theorem dL_law_487 : decode cL_law 487 = .ok (.aload_n 0, 1) := by decide +kernel
theorem dL_law_488 : decode cL_law 488 = .ok (.iload_n 3, 1) := by decide +kernel
theorem dL_law_489 : decode cL_law 489 = .ok (.iconst 1, 1) := by decide +kernel
theorem dL_law_490 : decode cL_law 490 = .ok (.iadd, 1) := by decide +kernel
theorem dL_law_491 : decode cL_law 491 = .ok (.iaload, 1) := by decide +kernel
theorem dL_law_492 : decode cL_law 492 = .ok (.invokevirtual 72, 3) := by decide +kernel
theorem dL_law_495 : decode cL_law 495 = .ok (.aload_n 2, 1) := by decide +kernel
theorem dL_law_496 : decode cL_law 496 = .ok (.aload_n 0, 1) := by decide +kernel
theorem dL_law_497 : decode cL_law 497 = .ok (.iload_n 3, 1) := by decide +kernel
theorem dL_law_498 : decode cL_law 498 = .ok (.iconst 1, 1) := by decide +kernel
theorem dL_law_499 : decode cL_law 499 = .ok (.iadd, 1) := by decide +kernel
theorem dL_law_500 : decode cL_law 500 = .ok (.iaload, 1) := by decide +kernel
theorem dL_law_501 : decode cL_law 501 = .ok (.invokevirtual 75, 3) := by decide +kernel
theorem dL_law_504 : decode cL_law 504 = .ok (.if_icmp .eq 347, 3) := by decide +kernel
theorem dL_law_507 : decode cL_law 507 = .ok (.iconst 0, 1) := by decide +kernel
theorem dL_law_508 : decode cL_law 508 = .ok (.ireturn, 1) := by decide +kernel
theorem dL_law_509 : decode cL_law 509 = .ok (.aload_n 1, 1) := by decide +kernel
theorem dL_law_510 : decode cL_law 510 = .ok (.aload_n 0, 1) := by decide +kernel
theorem dL_law_511 : decode cL_law 511 = .ok (.iload_n 3, 1) := by decide +kernel
theorem dL_law_512 : decode cL_law 512 = .ok (.iconst 1, 1) := by decide +kernel
theorem dL_law_513 : decode cL_law 513 = .ok (.iadd, 1) := by decide +kernel
theorem dL_law_514 : decode cL_law 514 = .ok (.iaload, 1) := by decide +kernel
theorem dL_law_515 : decode cL_law 515 = .ok (.aload_n 0, 1) := by decide +kernel
theorem dL_law_516 : decode cL_law 516 = .ok (.iload_n 3, 1) := by decide +kernel
theorem dL_law_517 : decode cL_law 517 = .ok (.iconst 2, 1) := by decide +kernel
theorem dL_law_518 : decode cL_law 518 = .ok (.iadd, 1) := by decide +kernel
theorem dL_law_519 : decode cL_law 519 = .ok (.iaload, 1) := by decide +kernel
theorem dL_law_520 : decode cL_law 520 = .ok (.invokevirtual 76, 3) := by decide +kernel
theorem dL_law_523 : decode cL_law 523 = .ok (.aload_n 2, 1) := by decide +kernel
theorem dL_law_524 : decode cL_law 524 = .ok (.aload_n 0, 1) := by decide +kernel
theorem dL_law_525 : decode cL_law 525 = .ok (.iload_n 3, 1) := by decide +kernel
theorem dL_law_526 : decode cL_law 526 = .ok (.iconst 1, 1) := by decide +kernel
theorem dL_law_527 : decode cL_law 527 = .ok (.iadd, 1) := by decide +kernel
theorem dL_law_528 : decode cL_law 528 = .ok (.iaload, 1) := by decide +kernel
theorem dL_law_529 : decode cL_law 529 = .ok (.aload_n 0, 1) := by decide +kernel
theorem dL_law_530 : decode cL_law 530 = .ok (.iload_n 3, 1) := by decide +kernel
theorem dL_law_531 : decode cL_law 531 = .ok (.iconst 2, 1) := by decide +kernel
theorem dL_law_532 : decode cL_law 532 = .ok (.iadd, 1) := by decide +kernel
theorem dL_law_533 : decode cL_law 533 = .ok (.iaload, 1) := by decide +kernel
theorem dL_law_534 : decode cL_law 534 = .ok (.invokevirtual 79, 3) := by decide +kernel
theorem dL_law_537 : decode cL_law 537 = .ok (.if_icmp .eq 314, 3) := by decide +kernel
theorem dL_law_540 : decode cL_law 540 = .ok (.iconst 0, 1) := by decide +kernel
theorem dL_law_541 : decode cL_law 541 = .ok (.ireturn, 1) := by decide +kernel
theorem dL_law_542 : decode cL_law 542 = .ok (.aload_n 1, 1) := by decide +kernel
theorem dL_law_543 : decode cL_law 543 = .ok (.invokevirtual 80, 3) := by decide +kernel
theorem dL_law_546 : decode cL_law 546 = .ok (.aload_n 2, 1) := by decide +kernel
theorem dL_law_547 : decode cL_law 547 = .ok (.invokevirtual 83, 3) := by decide +kernel
theorem dL_law_550 : decode cL_law 550 = .ok (.if_icmp .eq 301, 3) := by decide +kernel
theorem dL_law_553 : decode cL_law 553 = .ok (.iconst 0, 1) := by decide +kernel
theorem dL_law_554 : decode cL_law 554 = .ok (.ireturn, 1) := by decide +kernel
theorem dL_law_555 : decode cL_law 555 = .ok (.aload_n 1, 1) := by decide +kernel
theorem dL_law_556 : decode cL_law 556 = .ok (.aload_n 0, 1) := by decide +kernel
theorem dL_law_557 : decode cL_law 557 = .ok (.iload_n 3, 1) := by decide +kernel
theorem dL_law_558 : decode cL_law 558 = .ok (.iconst 1, 1) := by decide +kernel
theorem dL_law_559 : decode cL_law 559 = .ok (.iadd, 1) := by decide +kernel
theorem dL_law_560 : decode cL_law 560 = .ok (.iaload, 1) := by decide +kernel
theorem dL_law_561 : decode cL_law 561 = .ok (.invokevirtual 84, 3) := by decide +kernel
theorem dL_law_564 : decode cL_law 564 = .ok (.aload_n 2, 1) := by decide +kernel
theorem dL_law_565 : decode cL_law 565 = .ok (.aload_n 0, 1) := by decide +kernel
theorem dL_law_566 : decode cL_law 566 = .ok (.iload_n 3, 1) := by decide +kernel
theorem dL_law_567 : decode cL_law 567 = .ok (.iconst 1, 1) := by decide +kernel
theorem dL_law_568 : decode cL_law 568 = .ok (.iadd, 1) := by decide +kernel
theorem dL_law_569 : decode cL_law 569 = .ok (.iaload, 1) := by decide +kernel
theorem dL_law_570 : decode cL_law 570 = .ok (.invokevirtual 87, 3) := by decide +kernel
theorem dL_law_573 : decode cL_law 573 = .ok (.if_icmp .eq 278, 3) := by decide +kernel
theorem dL_law_576 : decode cL_law 576 = .ok (.iconst 0, 1) := by decide +kernel
theorem dL_law_577 : decode cL_law 577 = .ok (.ireturn, 1) := by decide +kernel
theorem dL_law_578 : decode cL_law 578 = .ok (.aload_n 1, 1) := by decide +kernel
theorem dL_law_579 : decode cL_law 579 = .ok (.aload_n 0, 1) := by decide +kernel
theorem dL_law_580 : decode cL_law 580 = .ok (.iload_n 3, 1) := by decide +kernel
theorem dL_law_581 : decode cL_law 581 = .ok (.iconst 1, 1) := by decide +kernel
theorem dL_law_582 : decode cL_law 582 = .ok (.iadd, 1) := by decide +kernel
theorem dL_law_583 : decode cL_law 583 = .ok (.iaload, 1) := by decide +kernel
theorem dL_law_584 : decode cL_law 584 = .ok (.invokevirtual 88, 3) := by decide +kernel
theorem dL_law_587 : decode cL_law 587 = .ok (.aload_n 2, 1) := by decide +kernel
theorem dL_law_588 : decode cL_law 588 = .ok (.aload_n 0, 1) := by decide +kernel
theorem dL_law_589 : decode cL_law 589 = .ok (.iload_n 3, 1) := by decide +kernel
theorem dL_law_590 : decode cL_law 590 = .ok (.iconst 1, 1) := by decide +kernel
theorem dL_law_591 : decode cL_law 591 = .ok (.iadd, 1) := by decide +kernel
theorem dL_law_592 : decode cL_law 592 = .ok (.iaload, 1) := by decide +kernel
theorem dL_law_593 : decode cL_law 593 = .ok (.invokevirtual 91, 3) := by decide +kernel
theorem dL_law_596 : decode cL_law 596 = .ok (.if_icmp .eq 255, 3) := by decide +kernel
theorem dL_law_599 : decode cL_law 599 = .ok (.iconst 0, 1) := by decide +kernel
theorem dL_law_600 : decode cL_law 600 = .ok (.ireturn, 1) := by decide +kernel
theorem dL_law_601 : decode cL_law 601 = .ok (.aload_n 1, 1) := by decide +kernel
theorem dL_law_602 : decode cL_law 602 = .ok (.aload_n 0, 1) := by decide +kernel
theorem dL_law_603 : decode cL_law 603 = .ok (.iload_n 3, 1) := by decide +kernel
theorem dL_law_604 : decode cL_law 604 = .ok (.iconst 1, 1) := by decide +kernel
theorem dL_law_605 : decode cL_law 605 = .ok (.iadd, 1) := by decide +kernel
theorem dL_law_606 : decode cL_law 606 = .ok (.iaload, 1) := by decide +kernel
theorem dL_law_607 : decode cL_law 607 = .ok (.invokevirtual 92, 3) := by decide +kernel
theorem dL_law_610 : decode cL_law 610 = .ok (.aload_n 2, 1) := by decide +kernel
theorem dL_law_611 : decode cL_law 611 = .ok (.aload_n 0, 1) := by decide +kernel
theorem dL_law_612 : decode cL_law 612 = .ok (.iload_n 3, 1) := by decide +kernel
theorem dL_law_613 : decode cL_law 613 = .ok (.iconst 1, 1) := by decide +kernel
theorem dL_law_614 : decode cL_law 614 = .ok (.iadd, 1) := by decide +kernel
theorem dL_law_615 : decode cL_law 615 = .ok (.iaload, 1) := by decide +kernel
theorem dL_law_616 : decode cL_law 616 = .ok (.invokevirtual 95, 3) := by decide +kernel
theorem dL_law_619 : decode cL_law 619 = .ok (.if_icmp .eq 232, 3) := by decide +kernel
theorem dL_law_622 : decode cL_law 622 = .ok (.iconst 0, 1) := by decide +kernel
theorem dL_law_623 : decode cL_law 623 = .ok (.ireturn, 1) := by decide +kernel
theorem dL_law_624 : decode cL_law 624 = .ok (.aload_n 1, 1) := by decide +kernel
theorem dL_law_625 : decode cL_law 625 = .ok (.aload_n 0, 1) := by decide +kernel
theorem dL_law_626 : decode cL_law 626 = .ok (.iload_n 3, 1) := by decide +kernel
theorem dL_law_627 : decode cL_law 627 = .ok (.iconst 1, 1) := by decide +kernel
theorem dL_law_628 : decode cL_law 628 = .ok (.iadd, 1) := by decide +kernel
theorem dL_law_629 : decode cL_law 629 = .ok (.iaload, 1) := by decide +kernel
theorem dL_law_630 : decode cL_law 630 = .ok (.invokevirtual 96, 3) := by decide +kernel
theorem dL_law_633 : decode cL_law 633 = .ok (.aload_n 2, 1) := by decide +kernel
theorem dL_law_634 : decode cL_law 634 = .ok (.aload_n 0, 1) := by decide +kernel
theorem dL_law_635 : decode cL_law 635 = .ok (.iload_n 3, 1) := by decide +kernel
theorem dL_law_636 : decode cL_law 636 = .ok (.iconst 1, 1) := by decide +kernel
theorem dL_law_637 : decode cL_law 637 = .ok (.iadd, 1) := by decide +kernel
theorem dL_law_638 : decode cL_law 638 = .ok (.iaload, 1) := by decide +kernel
theorem dL_law_639 : decode cL_law 639 = .ok (.invokevirtual 99, 3) := by decide +kernel
theorem dL_law_642 : decode cL_law 642 = .ok (.if_icmp .eq 209, 3) := by decide +kernel
theorem dL_law_645 : decode cL_law 645 = .ok (.iconst 0, 1) := by decide +kernel
theorem dL_law_646 : decode cL_law 646 = .ok (.ireturn, 1) := by decide +kernel
theorem dL_law_647 : decode cL_law 647 = .ok (.aload_n 1, 1) := by decide +kernel
theorem dL_law_648 : decode cL_law 648 = .ok (.aload_n 0, 1) := by decide +kernel
theorem dL_law_649 : decode cL_law 649 = .ok (.iload_n 3, 1) := by decide +kernel
theorem dL_law_650 : decode cL_law 650 = .ok (.iconst 1, 1) := by decide +kernel
theorem dL_law_651 : decode cL_law 651 = .ok (.iadd, 1) := by decide +kernel
theorem dL_law_652 : decode cL_law 652 = .ok (.iaload, 1) := by decide +kernel
theorem dL_law_653 : decode cL_law 653 = .ok (.aload_n 0, 1) := by decide +kernel
theorem dL_law_654 : decode cL_law 654 = .ok (.iload_n 3, 1) := by decide +kernel
theorem dL_law_655 : decode cL_law 655 = .ok (.iconst 2, 1) := by decide +kernel
theorem dL_law_656 : decode cL_law 656 = .ok (.iadd, 1) := by decide +kernel
theorem dL_law_657 : decode cL_law 657 = .ok (.iaload, 1) := by decide +kernel
theorem dL_law_658 : decode cL_law 658 = .ok (.aload_n 0, 1) := by decide +kernel
theorem dL_law_659 : decode cL_law 659 = .ok (.iload_n 3, 1) := by decide +kernel
theorem dL_law_660 : decode cL_law 660 = .ok (.iconst 3, 1) := by decide +kernel
theorem dL_law_661 : decode cL_law 661 = .ok (.iadd, 1) := by decide +kernel
theorem dL_law_662 : decode cL_law 662 = .ok (.iaload, 1) := by decide +kernel
theorem dL_law_663 : decode cL_law 663 = .ok (.aload_n 0, 1) := by decide +kernel
theorem dL_law_664 : decode cL_law 664 = .ok (.iload_n 3, 1) := by decide +kernel
theorem dL_law_665 : decode cL_law 665 = .ok (.iconst 4, 1) := by decide +kernel
theorem dL_law_666 : decode cL_law 666 = .ok (.iadd, 1) := by decide +kernel
theorem dL_law_667 : decode cL_law 667 = .ok (.iaload, 1) := by decide +kernel
theorem dL_law_668 : decode cL_law 668 = .ok (.invokevirtual 100, 3) := by decide +kernel
theorem dL_law_671 : decode cL_law 671 = .ok (.aload_n 2, 1) := by decide +kernel
theorem dL_law_672 : decode cL_law 672 = .ok (.aload_n 0, 1) := by decide +kernel
theorem dL_law_673 : decode cL_law 673 = .ok (.iload_n 3, 1) := by decide +kernel
theorem dL_law_674 : decode cL_law 674 = .ok (.iconst 1, 1) := by decide +kernel
theorem dL_law_675 : decode cL_law 675 = .ok (.iadd, 1) := by decide +kernel
theorem dL_law_676 : decode cL_law 676 = .ok (.iaload, 1) := by decide +kernel
theorem dL_law_677 : decode cL_law 677 = .ok (.aload_n 0, 1) := by decide +kernel
theorem dL_law_678 : decode cL_law 678 = .ok (.iload_n 3, 1) := by decide +kernel
theorem dL_law_679 : decode cL_law 679 = .ok (.iconst 2, 1) := by decide +kernel
theorem dL_law_680 : decode cL_law 680 = .ok (.iadd, 1) := by decide +kernel
theorem dL_law_681 : decode cL_law 681 = .ok (.iaload, 1) := by decide +kernel
theorem dL_law_682 : decode cL_law 682 = .ok (.aload_n 0, 1) := by decide +kernel
theorem dL_law_683 : decode cL_law 683 = .ok (.iload_n 3, 1) := by decide +kernel
theorem dL_law_684 : decode cL_law 684 = .ok (.iconst 3, 1) := by decide +kernel
theorem dL_law_685 : decode cL_law 685 = .ok (.iadd, 1) := by decide +kernel
theorem dL_law_686 : decode cL_law 686 = .ok (.iaload, 1) := by decide +kernel
theorem dL_law_687 : decode cL_law 687 = .ok (.aload_n 0, 1) := by decide +kernel
theorem dL_law_688 : decode cL_law 688 = .ok (.iload_n 3, 1) := by decide +kernel
theorem dL_law_689 : decode cL_law 689 = .ok (.iconst 4, 1) := by decide +kernel
theorem dL_law_690 : decode cL_law 690 = .ok (.iadd, 1) := by decide +kernel
theorem dL_law_691 : decode cL_law 691 = .ok (.iaload, 1) := by decide +kernel
theorem dL_law_692 : decode cL_law 692 = .ok (.invokevirtual 104, 3) := by decide +kernel
theorem dL_law_695 : decode cL_law 695 = .ok (.if_icmp .eq 156, 3) := by decide +kernel
theorem dL_law_698 : decode cL_law 698 = .ok (.iconst 0, 1) := by decide +kernel
theorem dL_law_699 : decode cL_law 699 = .ok (.ireturn, 1) := by decide +kernel
theorem dL_law_700 : decode cL_law 700 = .ok (.aload_n 1, 1) := by decide +kernel
theorem dL_law_701 : decode cL_law 701 = .ok (.aload_n 0, 1) := by decide +kernel
theorem dL_law_702 : decode cL_law 702 = .ok (.iload_n 3, 1) := by decide +kernel
theorem dL_law_703 : decode cL_law 703 = .ok (.iconst 1, 1) := by decide +kernel
theorem dL_law_704 : decode cL_law 704 = .ok (.iadd, 1) := by decide +kernel
theorem dL_law_705 : decode cL_law 705 = .ok (.iaload, 1) := by decide +kernel
theorem dL_law_706 : decode cL_law 706 = .ok (.aload_n 0, 1) := by decide +kernel
theorem dL_law_707 : decode cL_law 707 = .ok (.iload_n 3, 1) := by decide +kernel
theorem dL_law_708 : decode cL_law 708 = .ok (.iconst 2, 1) := by decide +kernel
theorem dL_law_709 : decode cL_law 709 = .ok (.iadd, 1) := by decide +kernel
theorem dL_law_710 : decode cL_law 710 = .ok (.iaload, 1) := by decide +kernel
theorem dL_law_711 : decode cL_law 711 = .ok (.invokevirtual 105, 3) := by decide +kernel
theorem dL_law_714 : decode cL_law 714 = .ok (.aload_n 2, 1) := by decide +kernel
theorem dL_law_715 : decode cL_law 715 = .ok (.aload_n 0, 1) := by decide +kernel
theorem dL_law_716 : decode cL_law 716 = .ok (.iload_n 3, 1) := by decide +kernel
theorem dL_law_717 : decode cL_law 717 = .ok (.iconst 1, 1) := by decide +kernel
theorem dL_law_718 : decode cL_law 718 = .ok (.iadd, 1) := by decide +kernel
theorem dL_law_719 : decode cL_law 719 = .ok (.iaload, 1) := by decide +kernel
theorem dL_law_720 : decode cL_law 720 = .ok (.aload_n 0, 1) := by decide +kernel
theorem dL_law_721 : decode cL_law 721 = .ok (.iload_n 3, 1) := by decide +kernel
theorem dL_law_722 : decode cL_law 722 = .ok (.iconst 2, 1) := by decide +kernel
theorem dL_law_723 : decode cL_law 723 = .ok (.iadd, 1) := by decide +kernel
theorem dL_law_724 : decode cL_law 724 = .ok (.iaload, 1) := by decide +kernel
theorem dL_law_725 : decode cL_law 725 = .ok (.invokevirtual 108, 3) := by decide +kernel
theorem dL_law_728 : decode cL_law 728 = .ok (.if_icmp .eq 123, 3) := by decide +kernel
theorem dL_law_731 : decode cL_law 731 = .ok (.iconst 0, 1) := by decide +kernel
theorem dL_law_732 : decode cL_law 732 = .ok (.ireturn, 1) := by decide +kernel
theorem dL_law_733 : decode cL_law 733 = .ok (.aload_n 1, 1) := by decide +kernel
theorem dL_law_734 : decode cL_law 734 = .ok (.invokevirtual 109, 3) := by decide +kernel
theorem dL_law_737 : decode cL_law 737 = .ok (.aload_n 2, 1) := by decide +kernel
theorem dL_law_738 : decode cL_law 738 = .ok (.invokevirtual 112, 3) := by decide +kernel
theorem dL_law_741 : decode cL_law 741 = .ok (.if_icmp .eq 110, 3) := by decide +kernel
theorem dL_law_744 : decode cL_law 744 = .ok (.iconst 0, 1) := by decide +kernel
theorem dL_law_745 : decode cL_law 745 = .ok (.ireturn, 1) := by decide +kernel
theorem dL_law_746 : decode cL_law 746 = .ok (.aload_n 1, 1) := by decide +kernel
theorem dL_law_747 : decode cL_law 747 = .ok (.aload_n 0, 1) := by decide +kernel
theorem dL_law_748 : decode cL_law 748 = .ok (.iload_n 3, 1) := by decide +kernel
theorem dL_law_749 : decode cL_law 749 = .ok (.iconst 1, 1) := by decide +kernel
theorem dL_law_750 : decode cL_law 750 = .ok (.iadd, 1) := by decide +kernel
theorem dL_law_751 : decode cL_law 751 = .ok (.iaload, 1) := by decide +kernel
theorem dL_law_752 : decode cL_law 752 = .ok (.invokevirtual 113, 3) := by decide +kernel
theorem dL_law_755 : decode cL_law 755 = .ok (.aload_n 2, 1) := by decide +kernel
theorem dL_law_756 : decode cL_law 756 = .ok (.aload_n 0, 1) := by decide +kernel
theorem dL_law_757 : decode cL_law 757 = .ok (.iload_n 3, 1) := by decide +kernel
theorem dL_law_758 : decode cL_law 758 = .ok (.iconst 1, 1) := by decide +kernel
theorem dL_law_759 : decode cL_law 759 = .ok (.iadd, 1) := by decide +kernel
theorem dL_law_760 : decode cL_law 760 = .ok (.iaload, 1) := by decide +kernel
theorem dL_law_761 : decode cL_law 761 = .ok (.invokevirtual 116, 3) := by decide +kernel
theorem dL_law_764 : decode cL_law 764 = .ok (.if_icmp .eq 87, 3) := by decide +kernel
theorem dL_law_767 : decode cL_law 767 = .ok (.iconst 0, 1) := by decide +kernel
theorem dL_law_768 : decode cL_law 768 = .ok (.ireturn, 1) := by decide +kernel
theorem dL_law_769 : decode cL_law 769 = .ok (.aload_n 1, 1) := by decide +kernel
theorem dL_law_770 : decode cL_law 770 = .ok (.aload_n 0, 1) := by decide +kernel
theorem dL_law_771 : decode cL_law 771 = .ok (.iload_n 3, 1) := by decide +kernel
theorem dL_law_772 : decode cL_law 772 = .ok (.iconst 1, 1) := by decide +kernel
theorem dL_law_773 : decode cL_law 773 = .ok (.iadd, 1) := by decide +kernel
theorem dL_law_774 : decode cL_law 774 = .ok (.iaload, 1) := by decide +kernel
theorem dL_law_775 : decode cL_law 775 = .ok (.aload_n 0, 1) := by decide +kernel
theorem dL_law_776 : decode cL_law 776 = .ok (.iload_n 3, 1) := by decide +kernel
theorem dL_law_777 : decode cL_law 777 = .ok (.iconst 2, 1) := by decide +kernel
theorem dL_law_778 : decode cL_law 778 = .ok (.iadd, 1) := by decide +kernel
theorem dL_law_779 : decode cL_law 779 = .ok (.iaload, 1) := by decide +kernel
theorem dL_law_780 : decode cL_law 780 = .ok (.invokevirtual 117, 3) := by decide +kernel
theorem dL_law_783 : decode cL_law 783 = .ok (.aload_n 2, 1) := by decide +kernel
theorem dL_law_784 : decode cL_law 784 = .ok (.aload_n 0, 1) := by decide +kernel
theorem dL_law_785 : decode cL_law 785 = .ok (.iload_n 3, 1) := by decide +kernel
theorem dL_law_786 : decode cL_law 786 = .ok (.iconst 1, 1) := by decide +kernel
theorem dL_law_787 : decode cL_law 787 = .ok (.iadd, 1) := by decide +kernel
theorem dL_law_788 : decode cL_law 788 = .ok (.iaload, 1) := by decide +kernel
theorem dL_law_789 : decode cL_law 789 = .ok (.aload_n 0, 1) := by decide +kernel
theorem dL_law_790 : decode cL_law 790 = .ok (.iload_n 3, 1) := by decide +kernel
theorem dL_law_791 : decode cL_law 791 = .ok (.iconst 2, 1) := by decide +kernel
theorem dL_law_792 : decode cL_law 792 = .ok (.iadd, 1) := by decide +kernel
theorem dL_law_793 : decode cL_law 793 = .ok (.iaload, 1) := by decide +kernel
theorem dL_law_794 : decode cL_law 794 = .ok (.invokevirtual 120, 3) := by decide +kernel
theorem dL_law_797 : decode cL_law 797 = .ok (.if_icmp .eq 54, 3) := by decide +kernel
theorem dL_law_800 : decode cL_law 800 = .ok (.iconst 0, 1) := by decide +kernel
theorem dL_law_801 : decode cL_law 801 = .ok (.ireturn, 1) := by decide +kernel
theorem dL_law_802 : decode cL_law 802 = .ok (.aload_n 1, 1) := by decide +kernel
theorem dL_law_803 : decode cL_law 803 = .ok (.invokevirtual 121, 3) := by decide +kernel
theorem dL_law_806 : decode cL_law 806 = .ok (.aload_n 2, 1) := by decide +kernel
theorem dL_law_807 : decode cL_law 807 = .ok (.invokevirtual 124, 3) := by decide +kernel
theorem dL_law_810 : decode cL_law 810 = .ok (.if_icmp .eq 41, 3) := by decide +kernel
theorem dL_law_813 : decode cL_law 813 = .ok (.iconst 0, 1) := by decide +kernel
theorem dL_law_814 : decode cL_law 814 = .ok (.ireturn, 1) := by decide +kernel
theorem dL_law_815 : decode cL_law 815 = .ok (.aload_n 1, 1) := by decide +kernel
theorem dL_law_816 : decode cL_law 816 = .ok (.invokevirtual 125, 3) := by decide +kernel
theorem dL_law_819 : decode cL_law 819 = .ok (.aload_n 2, 1) := by decide +kernel
theorem dL_law_820 : decode cL_law 820 = .ok (.invokevirtual 128, 3) := by decide +kernel
theorem dL_law_823 : decode cL_law 823 = .ok (.if_icmp .eq 28, 3) := by decide +kernel
theorem dL_law_826 : decode cL_law 826 = .ok (.iconst 0, 1) := by decide +kernel
theorem dL_law_827 : decode cL_law 827 = .ok (.ireturn, 1) := by decide +kernel
theorem dL_law_828 : decode cL_law 828 = .ok (.aload_n 1, 1) := by decide +kernel
theorem dL_law_829 : decode cL_law 829 = .ok (.aload_n 0, 1) := by decide +kernel
theorem dL_law_830 : decode cL_law 830 = .ok (.iload_n 3, 1) := by decide +kernel
theorem dL_law_831 : decode cL_law 831 = .ok (.iconst 1, 1) := by decide +kernel
theorem dL_law_832 : decode cL_law 832 = .ok (.iadd, 1) := by decide +kernel
theorem dL_law_833 : decode cL_law 833 = .ok (.iaload, 1) := by decide +kernel
theorem dL_law_834 : decode cL_law 834 = .ok (.invokevirtual 129, 3) := by decide +kernel
theorem dL_law_837 : decode cL_law 837 = .ok (.aload_n 2, 1) := by decide +kernel
theorem dL_law_838 : decode cL_law 838 = .ok (.aload_n 0, 1) := by decide +kernel
theorem dL_law_839 : decode cL_law 839 = .ok (.iload_n 3, 1) := by decide +kernel
theorem dL_law_840 : decode cL_law 840 = .ok (.iconst 1, 1) := by decide +kernel
theorem dL_law_841 : decode cL_law 841 = .ok (.iadd, 1) := by decide +kernel
theorem dL_law_842 : decode cL_law 842 = .ok (.iaload, 1) := by decide +kernel
theorem dL_law_843 : decode cL_law 843 = .ok (.invokevirtual 132, 3) := by decide +kernel
theorem dL_law_846 : decode cL_law 846 = .ok (.if_icmp .eq 5, 3) := by decide +kernel
theorem dL_law_849 : decode cL_law 849 = .ok (.iconst 0, 1) := by decide +kernel
theorem dL_law_850 : decode cL_law 850 = .ok (.ireturn, 1) := by decide +kernel
theorem dL_law_851 : decode cL_law 851 = .ok (.iinc 3 5, 3) := by decide +kernel
theorem dL_law_854 : decode cL_law 854 = .ok (.goto (-836), 3) := by decide +kernel
theorem dL_law_857 : decode cL_law 857 = .ok (.iconst 1, 1) := by decide +kernel
theorem dL_law_858 : decode cL_law 858 = .ok (.ireturn, 1) := by decide +kernel
end
section
/-- the tables' words that hold over calls: every method's words -/
def TB : List Cond := lw_tbl.filter goodWord
theorem tb_lw {w : Cond} (h : w ∈ TB) : w ∈ lw_tbl := (List.mem_filter.mp h).1
theorem tb0 {w : Cond} (i : Nat) (h : (k2_sels lw_privs)[i]? = some w) (g : goodWord w = true) : w ∈ TB := List.mem_filter.mpr ⟨List.mem_append_left _ (List.mem_of_getElem? h), g⟩
theorem tbt {w : Cond} (h : w ∈ tables_1) (g : goodWord w = true) : w ∈ TB := List.mem_filter.mpr ⟨List.mem_append_right _ h, g⟩
theorem tb1 {w : Cond} (i : Nat) (h : tables_1_1[i]? = some w) (g : goodWord w = true) : w ∈ TB := tbt (List.mem_append_left _ (List.mem_of_getElem? h)) g
theorem tb2 {w : Cond} (i : Nat) (h : tables_1_2[i]? = some w) (g : goodWord w = true) : w ∈ TB := tbt (List.mem_append_right _ (List.mem_append_left _ (List.mem_of_getElem? h))) g
theorem tb3 {w : Cond} (i : Nat) (h : tables_1_3[i]? = some w) (g : goodWord w = true) : w ∈ TB := tbt (List.mem_append_right _ (List.mem_append_right _ (List.mem_append_left _ (List.mem_of_getElem? h)))) g
theorem tb4 {w : Cond} (i : Nat) (h : tables_1_4[i]? = some w) (g : goodWord w = true) : w ∈ TB := tbt (List.mem_append_right _ (List.mem_append_right _ (List.mem_append_right _ (List.mem_append_left _ (List.mem_of_getElem? h))))) g
theorem tb5 {w : Cond} (i : Nat) (h : tables_1_5[i]? = some w) (g : goodWord w = true) : w ∈ TB := tbt (List.mem_append_right _ (List.mem_append_right _ (List.mem_append_right _ (List.mem_append_right _ (List.mem_of_getElem? h))))) g
/-! the memory: cell, slot, int; what a method does to it is an Option: none where the machine would throw -/
abbrev Mm : Type := Nat → Nat → Int32
def st (σ : Mm) (k j : Nat) (v : Int32) : Mm := fun a => if a = k then upd (σ k) j v else σ a
def cp (σ : Mm) (k1 k2 s d n : Nat) : Mm := fun a => if a = k2 then va_cpy (σ k1) (σ k2) s d n else σ a
def ib (i : Int32) (n : Nat) : Bool := decide (0 ≤ i.toInt) && decide (i.toInt < (n : Int))
theorem ib_in {i : Int32} {n : Nat} (h : ib i n = true) : vp_in i n := by
  rw [vp_in_iff]
  simpa [ib] using h
def rd (σ : Mm) (k n : Nat) (i : Int32) : Option Int32 := if ib i n = true then some (σ k i.toNatClampNeg) else none
def wr (σ : Mm) (k n : Nat) (i v : Int32) : Option Mm := if ib i n = true then some (st σ k i.toNatClampNeg v) else none
def pt (σ : Mm) (k j : Nat) (v : Int32) : Option Mm := some (st σ k j v)
def gq (x : Int32) (q : Nat) : Option Unit := if x.toNatClampNeg = q then some () else none
def gb (x : Int32) : Option Unit := if x = 0 ∨ x = 1 then some () else none
def gz (x : Int32) : Option Unit := if x = 0 then none else some ()
def gZ (x : Int64) : Option Unit := if x = 0 then none else some ()
def cy (σ : Mm) (k1 n1 : Nat) (s : Int32) (k2 n2 : Nat) (d n : Int32) : Option Mm :=
  if ¬ s < 0 ∧ ¬ d < 0 ∧ ¬ n < 0 ∧ s.toNatClampNeg + n.toNatClampNeg ≤ n1 ∧ d.toNatClampNeg + n.toNatClampNeg ≤ n2 then some (cp σ k1 k2 s.toNatClampNeg d.toNatClampNeg n.toNatClampNeg) else none
theorem rd_some {σ : Mm} {k n : Nat} {i v : Int32} (h : rd σ k n i = some v) : vp_in i n ∧ σ k i.toNatClampNeg = v := by
  unfold rd at h
  split at h
  · next h1 => exact ⟨ib_in h1, Option.some.inj h⟩
  · cases h
theorem wr_some {σ σ' : Mm} {k n : Nat} {i v : Int32} (h : wr σ k n i v = some σ') : vp_in i n ∧ st σ k i.toNatClampNeg v = σ' := by
  unfold wr at h
  split at h
  · next h1 => exact ⟨ib_in h1, Option.some.inj h⟩
  · cases h
theorem gq_some {x : Int32} {q : Nat} {u : Unit} (h : gq x q = some u) : x.toNatClampNeg = q := by
  unfold gq at h
  split at h
  · next h1 => exact h1
  · cases h
theorem gb_some {x : Int32} {u : Unit} (h : gb x = some u) : x = 0 ∨ x = 1 := by
  unfold gb at h
  split at h
  · next h1 => exact h1
  · cases h
theorem gz_some {x : Int32} {u : Unit} (h : gz x = some u) : ¬ x = 0 := by
  unfold gz at h
  split at h
  · cases h
  · next h1 => exact h1
theorem gZ_some {x : Int64} {u : Unit} (h : gZ x = some u) : ¬ x = 0 := by
  unfold gZ at h
  split at h
  · cases h
  · next h1 => exact h1
theorem cy_some {σ σ' : Mm} {k1 n1 k2 n2 : Nat} {s d n : Int32} (h : cy σ k1 n1 s k2 n2 d n = some σ') : (¬ s < 0 ∧ ¬ d < 0 ∧ ¬ n < 0 ∧ s.toNatClampNeg + n.toNatClampNeg ≤ n1 ∧ d.toNatClampNeg + n.toNatClampNeg ≤ n2) ∧ cp σ k1 k2 s.toNatClampNeg d.toNatClampNeg n.toNatClampNeg = σ' := by
  unfold cy at h
  split at h
  · next h1 => exact ⟨h1, Option.some.inj h⟩
  · cases h
/-! binds of one to eight values -/
def bd1 {A B : Type} (x : Option A) (f : A → Option B) : Option B := match x with
  | some a => f a
  | none => none
def bd2 {A1 A2 B : Type} (x : Option (A1 × A2)) (f : A1 → A2 → Option B) : Option B := match x with
  | some (a1, a2) => f a1 a2
  | none => none
def bd3 {A1 A2 A3 B : Type} (x : Option (A1 × A2 × A3)) (f : A1 → A2 → A3 → Option B) : Option B := match x with
  | some (a1, a2, a3) => f a1 a2 a3
  | none => none
def bd4 {A1 A2 A3 A4 B : Type} (x : Option (A1 × A2 × A3 × A4)) (f : A1 → A2 → A3 → A4 → Option B) : Option B := match x with
  | some (a1, a2, a3, a4) => f a1 a2 a3 a4
  | none => none
def bd5 {A1 A2 A3 A4 A5 B : Type} (x : Option (A1 × A2 × A3 × A4 × A5)) (f : A1 → A2 → A3 → A4 → A5 → Option B) : Option B := match x with
  | some (a1, a2, a3, a4, a5) => f a1 a2 a3 a4 a5
  | none => none
def bd6 {A1 A2 A3 A4 A5 A6 B : Type} (x : Option (A1 × A2 × A3 × A4 × A5 × A6)) (f : A1 → A2 → A3 → A4 → A5 → A6 → Option B) : Option B := match x with
  | some (a1, a2, a3, a4, a5, a6) => f a1 a2 a3 a4 a5 a6
  | none => none
theorem bs1 {A B : Type} {x : Option A} {f : A → Option B} {o : B} (h : bd1 x f = some o) : ∃ a, x = some a ∧ f a = some o := by
  cases x with
  | none => cases h
  | some a => exact ⟨a, rfl, h⟩
theorem bs2 {A1 A2 B : Type} {x : Option (A1 × A2)} {f : A1 → A2 → Option B} {o : B} (h : bd2 x f = some o) : ∃ a1 a2, x = some (a1, a2) ∧ f a1 a2 = some o := by
  cases x with
  | none => cases h
  | some a => obtain ⟨a1, a2⟩ := a; exact ⟨a1, a2, rfl, h⟩
theorem bs3 {A1 A2 A3 B : Type} {x : Option (A1 × A2 × A3)} {f : A1 → A2 → A3 → Option B} {o : B} (h : bd3 x f = some o) : ∃ a1 a2 a3, x = some (a1, a2, a3) ∧ f a1 a2 a3 = some o := by
  cases x with
  | none => cases h
  | some a => obtain ⟨a1, a2, a3⟩ := a; exact ⟨a1, a2, a3, rfl, h⟩
theorem bs4 {A1 A2 A3 A4 B : Type} {x : Option (A1 × A2 × A3 × A4)} {f : A1 → A2 → A3 → A4 → Option B} {o : B} (h : bd4 x f = some o) : ∃ a1 a2 a3 a4, x = some (a1, a2, a3, a4) ∧ f a1 a2 a3 a4 = some o := by
  cases x with
  | none => cases h
  | some a => obtain ⟨a1, a2, a3, a4⟩ := a; exact ⟨a1, a2, a3, a4, rfl, h⟩
theorem bs5 {A1 A2 A3 A4 A5 B : Type} {x : Option (A1 × A2 × A3 × A4 × A5)} {f : A1 → A2 → A3 → A4 → A5 → Option B} {o : B} (h : bd5 x f = some o) : ∃ a1 a2 a3 a4 a5, x = some (a1, a2, a3, a4, a5) ∧ f a1 a2 a3 a4 a5 = some o := by
  cases x with
  | none => cases h
  | some a => obtain ⟨a1, a2, a3, a4, a5⟩ := a; exact ⟨a1, a2, a3, a4, a5, rfl, h⟩
theorem bs6 {A1 A2 A3 A4 A5 A6 B : Type} {x : Option (A1 × A2 × A3 × A4 × A5 × A6)} {f : A1 → A2 → A3 → A4 → A5 → A6 → Option B} {o : B} (h : bd6 x f = some o) : ∃ a1 a2 a3 a4 a5 a6, x = some (a1, a2, a3, a4, a5, a6) ∧ f a1 a2 a3 a4 a5 a6 = some o := by
  cases x with
  | none => cases h
  | some a => obtain ⟨a1, a2, a3, a4, a5, a6⟩ := a; exact ⟨a1, a2, a3, a4, a5, a6, rfl, h⟩
theorem ip {A : Type} {c : Prop} [Decidable c] {x y : Option A} {o : A} (h : c) (hf : (if c then x else y) = some o) : x = some o := by
  rw [if_pos h] at hf
  exact hf
theorem iq {A : Type} {c : Prop} [Decidable c] {x y : Option A} {o : A} (h : ¬ c) (hf : (if c then x else y) = some o) : y = some o := by
  rw [if_neg h] at hf
  exact hf
/-! worlds by a function of cells -/
abbrev cfT : Type := (Nat → Nat) → Nat → (Nat → Int32) → va_E
def wl (cf : cfT) (N : Nat) (ad : Nat → Nat) (σ : Mm) : va_W := (List.range N).map (fun k => (ad k, cf ad k (σ k)))
theorem wl_at {cf : cfT} {N : Nat} {ad : Nat → Nat} {σ : Mm} {q : Nat} (hq : q < N) : (wl cf N ad σ)[q]? = some (ad q, cf ad q (σ q)) := by
  unfold wl
  rw [List.getElem?_map, List.getElem?_range hq]
  rfl
theorem wl_len {cf : cfT} {N : Nat} {ad : Nat → Nat} {σ : Mm} : (wl cf N ad σ).length = N := by simp [wl]
theorem wl_in {cf : cfT} {N : Nat} {ad : Nat → Nat} {σ : Mm} {q : Nat} {x : Nat × va_E} (h : (wl cf N ad σ)[q]? = some x) : q < N ∧ x = (ad q, cf ad q (σ q)) := by
  have hq : q < N := by
    have h1 := (List.getElem?_eq_some_iff.mp h).1
    rwa [wl_len] at h1
  rw [wl_at hq] at h
  exact ⟨hq, (Option.some.inj h).symm⟩
theorem wl_set {cf : cfT} {N : Nat} {ad : Nat → Nat} {σ : Mm} {q : Nat} (hq : q < N) {e : va_E} {σ' : Mm} (h1 : cf ad q (σ' q) = e) (h2 : ∀ a, a ≠ q → σ' a = σ a) : (wl cf N ad σ).set q (ad q, e) = wl cf N ad σ' := by
  apply List.ext_getElem?
  intro i
  by_cases hi : i < N
  · rw [wl_at hi]
    by_cases hiq : i = q
    · subst hiq
      rw [List.getElem?_set_self (by rw [wl_len]; exact hi), h1]
    · rw [List.getElem?_set_ne (Ne.symm hiq), wl_at hi, h2 i hiq]
  · rw [List.getElem?_eq_none (by rw [List.length_set, wl_len]; omega), List.getElem?_eq_none (by rw [wl_len]; omega)]
def Apt (ad : Nat → Nat) (N : Nat) : Prop := ∀ i j, i < N → j < N → ad i = ad j → i = j
def Aof (ad : Nat → Nat) (N : Nat) : Nat → Prop := fun q => ∃ k, k < N ∧ q = ad k
theorem Aof_in {ad : Nat → Nat} {N k : Nat} (h : k < N) : Aof ad N (ad k) := ⟨k, h, rfl⟩
theorem wl_D {cf : cfT} {N : Nat} {ad : Nat → Nat} {σ : Mm} {A : Nat → Prop} (h : Apt ad N) (hA : ∀ k, k < N → A (ad k)) : va_D A (wl cf N ad σ) := by
  refine ⟨fun i j p q hi hj hpq => ?_, fun k q hk => ?_⟩
  · obtain ⟨a1, b1⟩ := wl_in hi
    obtain ⟨a2, b2⟩ := wl_in hj
    subst b1; subst b2
    exact h i j a1 a2 hpq
  · obtain ⟨a1, b1⟩ := wl_in hk
    subst b1
    exact hA k a1
abbrev Kp : Type := va_G × ClassId × ClassId × ClassId
def nst (U : State) : Prop := va_Nw (.methodLinkNest RX4 135 yX8_within RX8) U ∧ va_Nw (.methodLinkNest RX5 39 yX8_within RX8) U ∧ va_Nw (.methodLinkNest RX6 68 yX8_within RX8) U
def Ev (κ : Kp) (U : State) : Prop := va_K κ.1 vwCl [(κ.2.1, .int), (κ.2.2.1, .char), (κ.2.2.2, .byte)] U ∧ nst U
theorem Ev.warm {κ : Kp} {s U : State} (hW : s.WarmedH U.vm) (h : Ev κ s) : Ev κ U := ⟨va_K.moved hW.alike h.1, h.2.1.warmM hW, h.2.2.1.warmM hW, h.2.2.2.warmM hW⟩
theorem Ev.calling {κ : Kp} {U : State} {g : JFrame} {mk : MethodId} {a : Array Value} (h : Ev κ U) : Ev κ (U.calling g mk a) := ⟨va_K.moved (u := U) (U := U.calling g mk a) (Vm.Alike.refl U.vm) h.1, h.2.1.same rfl rfl, h.2.2.1.same rfl rfl, h.2.2.2.same rfl rfl⟩
def Ho (κ : Kp) (cf : cfT) (N : Nat) (ad : Nat → Nat) (σ : Mm) (H : Heap) : Prop := va_P κ.1 vwCl (wl cf N ad σ) H
/-- what the tables say of a field that is read, and of one that is written -/
def FL (own : String) (idx : Nat) (C : String) (T : u_T) (M k ci : Nat) : Prop := Cond.fieldLink own idx (T k).1 (T k).2.1 (T k).2.2.1 ∈ TB ∧ k < M ∧ vwCl[ci]? = some (C, T, M) ∧ ∀ w ∈ u_ws C T M, w ∈ TB
def FP (own : String) (idx : Nat) (C : String) (T : u_T) (M k ci : Nat) (ty : Nat → FieldType) : Prop := FL own idx C T M k ci ∧ (∀ k, k < M → parseFieldDescriptor (T k).2.2.1 = some (ty k)) ∧ (∀ a, a < M → ∀ b, b < M → a ≠ b → (T a).2.1 ≠ (T b).2.1) ∧ (T k).2.2.2 = false
theorem TB_pay {s : State} {args : Array Value} {y : MethodName} {bytes : ByteArray} {maxL : Nat} {ret : Option FieldType} (hts : ∀ w ∈ TB, w.before args s = true) (hc : Cond.code y bytes maxL ret ∈ TB) : ∀ w ∈ (Cond.code y bytes maxL ret :: TB), ∀ (a' : Array Value) (U : State), s.WarmedH U.vm → w.before a' U = true := by
  have h : ∀ w ∈ TB, ∀ (a' : Array Value) (U : State), s.WarmedH U.vm → w.before a' U = true := fun w hw a' U hW => word_at hW (good_of_word (List.mem_filter.mp hw).2) (hts w hw)
  intro w hw
  rcases List.mem_cons.mp hw with rfl | hw
  · exact h _ hc
  · exact h w hw
abbrev PcX (κ : Kp) (cf : cfT) (N : Nat) (ad : Nat → Nat) (σ : Mm) (av : List Value) : Array Value → State → Prop := va_Pc av (fun U => Ho κ cf N ad σ U.heap ∧ Ev κ U)
abbrev QI (κ : Kp) (cf : cfT) (N : Nat) (ad : Nat → Nat) (σ : Mm) (r : Int32) : Array Value → State → Outcome → State → Prop := va_Qi (fun r' (_ : Unit) => r' = r) (fun _ t => Ho κ cf N ad σ t.heap) (Aof ad N)
abbrev QV (κ : Kp) (cf : cfT) (N : Nat) (ad : Nat → Nat) (σ : Mm) : Array Value → State → Outcome → State → Prop := va_Qv (fun _ : Unit => True) (fun _ t => Ho κ cf N ad σ t.heap) (Aof ad N)
abbrev rmX (fr lo : Nat) : Room := { frames := fr, cells := 0, slots := 0, locals := lo }
/-- what a method's body may use -/
def Cx (κ : Kp) (own : String) (cc : ByteArray) (nL : Nat) (p : Program) (s : State) (m : MethodId) (args : Array Value) (c : Code) : Prop :=
  p.tables.exec = Jvm.exec ∧ c.code = cc ∧ c.maxLocals = nL ∧ s.vm.findClass own = some m.cls ∧ (∀ w ∈ TB, w.before args s = true) ∧ Ev κ s
theorem blindX {κ : Kp} {cf : cfT} {N : Nat} {ad : Nat → Nat} {σ : Mm} {av : List Value} : FrameBlind (PcX κ cf N ad σ av) := by
  intro a U g mk q
  obtain ⟨q0, q1, q2⟩ := q
  exact ⟨q0, q1, q2.calling⟩
set_option maxHeartbeats 4000000 in
theorem mkI {l : Launch} {y : MethodName} {cc : ByteArray} {nL fr lo : Nat} {κ : Kp} {cf : cfT} {N : Nat} {ad : Nat → Nat} {σ σ' : Mm} {r : Int32} {av : List Value} (hy : plainName y.cls = true) (hlen : (lg_sl av).length ≤ nL)
    (body : ∀ (p : Program) (e : Env) (R : Room) (s : State) (m : MethodId) (args : Array Value) (below : List Frame) (meth : Method) (c : Code) (Q : State → Prop) (ls : Array Slot), Cx κ y.cls cc nL p s m args c → fr ≤ R.frames → lo ≤ R.locals → Ho κ cf N ad σ s.heap →
      (∀ (pc : Nat) (H : Heap) (locs : List Loc) (ls : Array Slot), decode cc pc = .ok (.ireturn, 1) → Ho κ cf N ad σ' H → va_S (Aof ad N) s.heap H locs → W p l e R s m args below meth c H locs 0 0 Q (F0 m pc ls [.int r])) →
      lv_has ls nL (lv_args 0 av) → W p l e R s m args below meth c s.heap [] 0 0 Q (F0 m 0 ls [])) :
    Met l y (Cond.code y cc nL (some .int) :: TB) (rmX fr lo) (PcX κ cf N ad σ av) (QI κ cf N ad σ' r) 0 0 (Aof ad N) := by
  refine Met.ofW (cc := cc) (maxL := nL) (ret := some .int) hy rfl ?_
  intro p e s m args below meth c s₁ B hml hv
  obtain ⟨rfl, hP, hE⟩ := hv
  have hts := atoms_spec (ws := Cond.code y cc nL (some .int) :: TB) B.pre
  have hlocks := B.notSynchronized
  rw [lg_entry_eq]
  refine body p e _ s m _ below meth c _ _ ⟨B.exec, B.bytes, hml, findClass_of_methodNamed B.named, fun w h => hts w (List.mem_cons_of_mem _ h), hE⟩ (Nat.le_refl _) (Nat.le_refl _) hP (fun pc H locs ls hd hP hS => ?_) (lv_entry av hlen)
  exact W.iret B.exec B.bytes B.returns (fun t ht hW => ⟨⟨r, (), rfl, rfl, by show Ho κ cf N ad σ' t.heap; rw [ht]; exact hP⟩, hS.F ht⟩) hS.2.2 hd
set_option maxHeartbeats 4000000 in
theorem mkZ {l : Launch} {y : MethodName} {cc : ByteArray} {nL fr lo : Nat} {κ : Kp} {cf : cfT} {N : Nat} {ad : Nat → Nat} {σ σ' : Mm} {r : Int32} {av : List Value} (hy : plainName y.cls = true) (hlen : (lg_sl av).length ≤ nL)
    (body : ∀ (p : Program) (e : Env) (R : Room) (s : State) (m : MethodId) (args : Array Value) (below : List Frame) (meth : Method) (c : Code) (Q : State → Prop) (ls : Array Slot), Cx κ y.cls cc nL p s m args c → fr ≤ R.frames → lo ≤ R.locals → Ho κ cf N ad σ s.heap →
      (∀ (pc : Nat) (H : Heap) (locs : List Loc) (ls : Array Slot), decode cc pc = .ok (.ireturn, 1) → (r = 0 ∨ r = 1) → Ho κ cf N ad σ' H → va_S (Aof ad N) s.heap H locs → W p l e R s m args below meth c H locs 0 0 Q (F0 m pc ls [.int r])) →
      lv_has ls nL (lv_args 0 av) → W p l e R s m args below meth c s.heap [] 0 0 Q (F0 m 0 ls [])) :
    Met l y (Cond.code y cc nL (some .boolean) :: TB) (rmX fr lo) (PcX κ cf N ad σ av) (QI κ cf N ad σ' r) 0 0 (Aof ad N) := by
  refine Met.ofW (cc := cc) (maxL := nL) (ret := some .boolean) hy rfl ?_
  intro p e s m args below meth c s₁ B hml hv
  obtain ⟨rfl, hP, hE⟩ := hv
  have hts := atoms_spec (ws := Cond.code y cc nL (some .boolean) :: TB) B.pre
  have hlocks := B.notSynchronized
  rw [lg_entry_eq]
  refine body p e _ s m _ below meth c _ _ ⟨B.exec, B.bytes, hml, findClass_of_methodNamed B.named, fun w h => hts w (List.mem_cons_of_mem _ h), hE⟩ (Nat.le_refl _) (Nat.le_refl _) hP (fun pc H locs ls hd hr hP hS => ?_) (lv_entry av hlen)
  exact W.zret (ty := .boolean) B.exec B.bytes B.returns (by rcases hr with rfl | rfl <;> rfl) (fun t ht hW => ⟨⟨r, (), rfl, rfl, by show Ho κ cf N ad σ' t.heap; rw [ht]; exact hP⟩, hS.F ht⟩) hS.2.2 hd
set_option maxHeartbeats 4000000 in
theorem mkV {l : Launch} {y : MethodName} {cc : ByteArray} {nL fr lo : Nat} {κ : Kp} {cf : cfT} {N : Nat} {ad : Nat → Nat} {σ σ' : Mm} {av : List Value} (hy : plainName y.cls = true) (hlen : (lg_sl av).length ≤ nL)
    (body : ∀ (p : Program) (e : Env) (R : Room) (s : State) (m : MethodId) (args : Array Value) (below : List Frame) (meth : Method) (c : Code) (Q : State → Prop) (ls : Array Slot), Cx κ y.cls cc nL p s m args c → fr ≤ R.frames → lo ≤ R.locals → Ho κ cf N ad σ s.heap →
      (∀ (pc : Nat) (H : Heap) (locs : List Loc) (ls : Array Slot), decode cc pc = .ok (.return_, 1) → Ho κ cf N ad σ' H → va_S (Aof ad N) s.heap H locs → W p l e R s m args below meth c H locs 0 0 Q (F0 m pc ls [])) →
      lv_has ls nL (lv_args 0 av) → W p l e R s m args below meth c s.heap [] 0 0 Q (F0 m 0 ls [])) :
    Met l y (Cond.code y cc nL none :: TB) (rmX fr lo) (PcX κ cf N ad σ av) (QV κ cf N ad σ') 0 0 (Aof ad N) := by
  refine Met.ofW (cc := cc) (maxL := nL) (ret := none) hy rfl ?_
  intro p e s m args below meth c s₁ B hml hv
  obtain ⟨rfl, hP, hE⟩ := hv
  have hts := atoms_spec (ws := Cond.code y cc nL none :: TB) B.pre
  have hlocks := B.notSynchronized
  rw [lg_entry_eq]
  refine body p e _ s m _ below meth c _ _ ⟨B.exec, B.bytes, hml, findClass_of_methodNamed B.named, fun w h => hts w (List.mem_cons_of_mem _ h), hE⟩ (Nat.le_refl _) (Nat.le_refl _) hP (fun pc H locs ls hd hP hS => ?_) (lv_entry av hlen)
  exact W.vret B.exec B.bytes B.returns (fun t ht hW => ⟨⟨(), rfl, trivial, by show Ho κ cf N ad σ' t.heap; rw [ht]; exact hP⟩, hS.F ht⟩) hS.2.2 hd
section XR
variable {p : Program} {l : Launch} {e : Env} {R : Room} {s : State} {m : MethodId} {args : Array Value} {below : List Frame} {meth : Method} {c : Code} {H : Heap} {locs : List Loc} {cells slots : Nat} {Q : State → Prop}
variable {cc : ByteArray} {pc : Nat} {ls : Array Slot} {rest : List Value} {κ : Kp} {cf : cfT} {N : Nat} {ad : Nat → Nat} {σ σ' : Mm} {A : Nat → Prop} {H0 : Heap} {own : String}
theorem x_get (hx : p.tables.exec = Jvm.exec) (hb : c.code = cc) (hts : ∀ w ∈ TB, w.before args s = true) (hown : s.vm.findClass own = some m.cls) (hE : Ev κ s) (hP : Ho κ cf N ad σ H) {C : String} {T : u_T} {M k ci idx : Nat} (hF : FL own idx C T M k ci) {q : Nat} (hq : q < N) {v : Value} (hg : ∃ fs, cf ad q (σ q) = .inr (ci, fs) ∧ fs[k]? = some v) (hd : decode cc pc = .ok (.getfield idx, 3))
    (kk : W p l e R s m args below meth c H locs cells slots Q (F0 m (pc + 3) ls (v :: rest))) : W p l e R s m args below meth c H locs cells slots Q (F0 m pc ls (.ref (ad q) :: rest)) := by
  obtain ⟨hl, hk, hc, hin⟩ := hF
  obtain ⟨fs, h1, h2⟩ := hg
  exact va_get hx hb hts hin hown hE.1 hP q (by rw [wl_at hq, h1]) hc k hk (hts _ hl) (fun _ h => h) h2 hd kk
/-- a reference that the memory names by its cell -/
theorem x_getr (hx : p.tables.exec = Jvm.exec) (hb : c.code = cc) (hts : ∀ w ∈ TB, w.before args s = true) (hown : s.vm.findClass own = some m.cls) (hE : Ev κ s) (hP : Ho κ cf N ad σ H) {C : String} {T : u_T} {M k ci idx : Nat} (hF : FL own idx C T M k ci) {q q' : Nat} {u : Unit} (hq : q < N) (hg : ∃ fs, cf ad q (σ q) = .inr (ci, fs) ∧ fs[k]? = some (.ref (ad (σ q k).toNatClampNeg))) (hv : gq (σ q k) q' = some u) (hd : decode cc pc = .ok (.getfield idx, 3))
    (kk : W p l e R s m args below meth c H locs cells slots Q (F0 m (pc + 3) ls (.ref (ad q') :: rest))) : W p l e R s m args below meth c H locs cells slots Q (F0 m pc ls (.ref (ad q) :: rest)) := by
  refine x_get hx hb hts hown hE hP hF hq hg hd ?_
  rw [gq_some hv]
  exact kk
theorem x_put (hx : p.tables.exec = Jvm.exec) (hb : c.code = cc) (hts : ∀ w ∈ TB, w.before args s = true) (hown : s.vm.findClass own = some m.cls) (hE : Ev κ s) (hD : Apt ad N) (hA : ∀ k, k < N → A (ad k)) (hP : Ho κ cf N ad σ H) (hS : va_S A H0 H locs) {C : String} {T : u_T} {M k ci idx : Nat} {ty : Nat → FieldType} (hF : FP own idx C T M k ci ty) {q : Nat} (hq : q < N) {x : Int32} {v : Value} (hg : ∃ fs, cf ad q (σ q) = .inr (ci, fs) ∧ k < fs.length ∧ cf ad q (upd (σ q) k x) = .inr (ci, fs.set k v)) (hn : narrow (ty k) v = v) (hft : fits (ty k) v = true) (hv : pt σ q k x = some σ') (hd : decode cc pc = .ok (.putfield idx, 3))
    (kk : ∀ (H : Heap) (locs : List Loc), Ho κ cf N ad σ' H → va_S A H0 H locs → W p l e R s m args below meth c H locs cells slots Q (F0 m (pc + 3) ls rest)) : W p l e R s m args below meth c H locs cells slots Q (F0 m pc ls (v :: .ref (ad q) :: rest)) := by
  obtain ⟨⟨hl, hk, hc, hin⟩, hty, hnm, hfin⟩ := hF
  obtain ⟨fs, h1, h2, h3⟩ := hg
  refine va_put hx hb hts hin ty hty hnm hown hE.1 hP (wl_D hD hA) hS q (by rw [wl_at hq, h1]) hc k hk (hts _ hl) (fun _ h => h) hfin (hty k hk) hn hft h2 hd (fun H1 locs1 hP1 _ hS1 => kk H1 locs1 ?_ hS1)
  have h4 : σ' = st σ q k x := (Option.some.inj hv).symm
  unfold Ho
  rw [← wl_set (σ := σ) (σ' := σ') hq (e := .inr (ci, fs.set k v)) (by rw [h4, ← h3]; simp [st]) (fun a ha => by rw [h4]; simp [st, ha])]
  exact hP1
theorem x_iald (hx : p.tables.exec = Jvm.exec) (hb : c.code = cc) (hE : Ev κ s) (hP : Ho κ cf N ad σ H) {q n : Nat} (hq : q < N) (hc : cf ad q (σ q) = .inl (κ.2.1, n, .inl (σ q))) {i v : Int32} (hv : rd σ q n i = some v) (hd : decode cc pc = .ok (.iaload, 1))
    (kk : W p l e R s m args below meth c H locs cells slots Q (F0 m (pc + 1) ls (.int v :: rest))) : W p l e R s m args below meth c H locs cells slots Q (F0 m pc ls (.int i :: .ref (ad q) :: rest)) := by
  obtain ⟨h1, h2⟩ := rd_some hv
  subst h2
  exact va_iald hx hb hE.1 hP q 0 (by rw [wl_at hq, hc]) rfl h1 hd kk
theorem x_cald (hx : p.tables.exec = Jvm.exec) (hb : c.code = cc) (hE : Ev κ s) (hP : Ho κ cf N ad σ H) {q n : Nat} (hq : q < N) (hc : cf ad q (σ q) = .inl (κ.2.2.1, n, .inl (σ q))) {i v : Int32} (hv : rd σ q n i = some v) (hd : decode cc pc = .ok (.caload, 1))
    (kk : W p l e R s m args below meth c H locs cells slots Q (F0 m (pc + 1) ls (.int v :: rest))) : W p l e R s m args below meth c H locs cells slots Q (F0 m pc ls (.int i :: .ref (ad q) :: rest)) := by
  obtain ⟨h1, h2⟩ := rd_some hv
  subst h2
  exact va_cald hx hb hE.1 hP q 1 (by rw [wl_at hq, hc]) rfl h1 hd kk
theorem x_bald (hx : p.tables.exec = Jvm.exec) (hb : c.code = cc) (hE : Ev κ s) (hP : Ho κ cf N ad σ H) {q n : Nat} (hq : q < N) (hc : cf ad q (σ q) = .inl (κ.2.2.2, n, .inl (σ q))) {i v : Int32} (hv : rd σ q n i = some v) (hd : decode cc pc = .ok (.baload, 1))
    (kk : W p l e R s m args below meth c H locs cells slots Q (F0 m (pc + 1) ls (.int v :: rest))) : W p l e R s m args below meth c H locs cells slots Q (F0 m pc ls (.int i :: .ref (ad q) :: rest)) := by
  obtain ⟨h1, h2⟩ := rd_some hv
  subst h2
  exact va_bald hx hb hE.1 hP q 2 (by rw [wl_at hq, hc]) rfl h1 hd kk
theorem x_iast (hx : p.tables.exec = Jvm.exec) (hb : c.code = cc) (hE : Ev κ s) (hD : Apt ad N) (hA : ∀ k, k < N → A (ad k)) (hP : Ho κ cf N ad σ H) (hS : va_S A H0 H locs) {q n : Nat} (hq : q < N) (hc : ∀ f, cf ad q f = .inl (κ.2.1, n, .inl f)) {i x : Int32} (hv : wr σ q n i x = some σ') (hd : decode cc pc = .ok (.iastore, 1))
    (kk : ∀ (H : Heap) (locs : List Loc), Ho κ cf N ad σ' H → va_S A H0 H locs → W p l e R s m args below meth c H locs cells slots Q (F0 m (pc + 1) ls rest)) : W p l e R s m args below meth c H locs cells slots Q (F0 m pc ls (.int x :: .int i :: .ref (ad q) :: rest)) := by
  obtain ⟨h1, h2⟩ := wr_some hv
  refine va_iast hx hb hE.1 hP (wl_D hD hA) hS q 0 (by rw [wl_at hq, hc]) rfl h1 hd (fun H1 locs1 hP1 _ hS1 => kk H1 locs1 ?_ hS1)
  unfold Ho
  rw [← wl_set (σ := σ) (σ' := σ') hq (e := .inl (κ.2.1, n, .inl (upd (σ q) i.toNatClampNeg x))) (by rw [hc, ← h2]; simp [st]) (fun a ha => by rw [← h2]; simp [st, ha])]
  exact hP1
theorem x_cast (hx : p.tables.exec = Jvm.exec) (hb : c.code = cc) (hE : Ev κ s) (hD : Apt ad N) (hA : ∀ k, k < N → A (ad k)) (hP : Ho κ cf N ad σ H) (hS : va_S A H0 H locs) {q n : Nat} (hq : q < N) (hc : ∀ f, cf ad q f = .inl (κ.2.2.1, n, .inl f)) {i x : Int32} (hnr : vp_nar .char x = x) (hv : wr σ q n i x = some σ') (hd : decode cc pc = .ok (.castore, 1))
    (kk : ∀ (H : Heap) (locs : List Loc), Ho κ cf N ad σ' H → va_S A H0 H locs → W p l e R s m args below meth c H locs cells slots Q (F0 m (pc + 1) ls rest)) : W p l e R s m args below meth c H locs cells slots Q (F0 m pc ls (.int x :: .int i :: .ref (ad q) :: rest)) := by
  obtain ⟨h1, h2⟩ := wr_some hv
  refine va_cast hx hb hE.1 hP (wl_D hD hA) hS q 1 (by rw [wl_at hq, hc]) rfl h1 hd (fun H1 locs1 hP1 _ hS1 => kk H1 locs1 ?_ hS1)
  unfold Ho
  rw [hnr] at hP1
  rw [← wl_set (σ := σ) (σ' := σ') hq (e := .inl (κ.2.2.1, n, .inl (upd (σ q) i.toNatClampNeg x))) (by rw [hc, ← h2]; simp [st]) (fun a ha => by rw [← h2]; simp [st, ha])]
  exact hP1
theorem x_bast (hx : p.tables.exec = Jvm.exec) (hb : c.code = cc) (hE : Ev κ s) (hD : Apt ad N) (hA : ∀ k, k < N → A (ad k)) (hP : Ho κ cf N ad σ H) (hS : va_S A H0 H locs) {q n : Nat} (hq : q < N) (hc : ∀ f, cf ad q f = .inl (κ.2.2.2, n, .inl f)) {i x : Int32} (hnr : vp_nar .byte x = x) (hv : wr σ q n i x = some σ') (hd : decode cc pc = .ok (.bastore, 1))
    (kk : ∀ (H : Heap) (locs : List Loc), Ho κ cf N ad σ' H → va_S A H0 H locs → W p l e R s m args below meth c H locs cells slots Q (F0 m (pc + 1) ls rest)) : W p l e R s m args below meth c H locs cells slots Q (F0 m pc ls (.int x :: .int i :: .ref (ad q) :: rest)) := by
  obtain ⟨h1, h2⟩ := wr_some hv
  refine va_bast hx hb hE.1 hP (wl_D hD hA) hS q 2 (by rw [wl_at hq, hc]) rfl h1 hd (fun H1 locs1 hP1 _ hS1 => kk H1 locs1 ?_ hS1)
  unfold Ho
  rw [hnr] at hP1
  rw [← wl_set (σ := σ) (σ' := σ') hq (e := .inl (κ.2.2.2, n, .inl (upd (σ q) i.toNatClampNeg x))) (by rw [hc, ← h2]; simp [st]) (fun a ha => by rw [← h2]; simp [st, ha])]
  exact hP1
/-- System.arraycopy over ints -/
def LC (own : String) (idx : Nat) : Prop := Cond.methodLink own idx arraycopyName ∈ TB ∧ Cond.native arraycopyName ∈ TB ∧ Cond.static arraycopyName ∈ TB ∧ Cond.initialized "java/lang/System" ∈ TB
theorem x_copy (hx : p.tables.exec = Jvm.exec) (hb : c.code = cc) (hml : c.maxLocals = ls.size) (hts : ∀ w ∈ TB, w.before args s = true) (hown : s.vm.findClass own = some m.cls) (hE : Ev κ s) (hD : Apt ad N) (hA : ∀ k, k < N → A (ad k)) (hP : Ho κ cf N ad σ H) (hS : va_S A H0 H locs) {idx : Nat} (hL : LC own idx) {q0 q1 n0 n1 : Nat} (hq0 : q0 < N) (hq1 : q1 < N) (hc0 : ∀ f, cf ad q0 f = .inl (κ.2.1, n0, .inl f)) (hc1 : ∀ f, cf ad q1 f = .inl (κ.2.1, n1, .inl f)) {sp dp n : Int32} (hv : cy σ q0 n0 sp q1 n1 dp n = some σ') (hfr : 1 ≤ R.frames) (hlo : (rest.map fun v => v.category).sum + (nativeFrameWords "java/lang/System" "arraycopy" 5 + 11) ≤ R.locals) (hd : decode cc pc = .ok (.invokestatic idx, 3))
    (kk : ∀ (H : Heap) (locs : List Loc), Ho κ cf N ad σ' H → va_S A H0 H locs → W p l e R s m args below meth c H locs cells slots Q (F0 m (pc + 3) ls rest)) : W p l e R s m args below meth c H locs cells slots Q (F0 m pc ls (.int n :: .int dp :: .ref (ad q1) :: .int sp :: .ref (ad q0) :: rest)) := by
  obtain ⟨⟨h1, h2, h3, h4, h5⟩, h6⟩ := cy_some hv
  refine va_copyi hx hb hml hown (hts _ hL.1) (hts _ hL.2.1) (hts _ hL.2.2.1) (hts _ hL.2.2.2) hE.1 hP (wl_D hD hA) hS q0 q1 0 0 (by rw [wl_at hq0, hc0]) (by rw [wl_at hq1, hc1]) rfl rfl rfl h1 h2 h3 h4 h5 (fun _ _ => rfl) hfr hlo hd (fun H1 locs1 hP1 _ hS1 => kk H1 locs1 ?_ hS1)
  unfold Ho
  rw [← wl_set (σ := σ) (σ' := σ') hq1 (e := .inl (κ.2.1, n1, .inl (va_cpy (σ q0) (σ q1) sp.toNatClampNeg dp.toNatClampNeg n.toNatClampNeg))) (by rw [hc1, ← h6]; simp [cp]) (fun a ha => by rw [← h6]; simp [cp, ha])]
  exact hP1
/-- Math.min, max, abs -/
def LM (own : String) (idx : Nat) (x : MethodName) (code : ByteArray) (n : Nat) : Prop := Cond.methodLink own idx x ∈ TB ∧ Cond.static x ∈ TB ∧ Cond.initialized "java/lang/Math" ∈ TB ∧ Cond.code x code n (some .int) ∈ TB
theorem x_min (hx : p.tables.exec = Jvm.exec) (hb : c.code = cc) (hml : c.maxLocals = ls.size) (hts : ∀ w ∈ TB, w.before args s = true) (hown : s.vm.findClass own = some m.cls) {idx : Nat} (hL : LM own idx Lib.Math.min.name Lib.Math.min.code 2) (hfr : 1 ≤ R.frames) (hlo : (rest.map fun v => v.category).sum + 13 ≤ R.locals) (hc : cells ≤ R.cells) (hs : slots ≤ R.slots) {x y : Int32} (hd : decode cc pc = .ok (.invokestatic idx, 3))
    (kk : W p l e R s m args below meth c H locs cells slots Q (F0 m (pc + 3) ls (.int (if y < x then y else x) :: rest))) : W p l e R s m args below meth c H locs cells slots Q (F0 m pc ls (.int y :: .int x :: rest)) :=
  va_mmin hx hb hml hown (hts _ hL.1) (hts _ hL.2.1) (hts _ hL.2.2.1) (hts _ hL.2.2.2) hfr hlo hc hs hd kk
theorem x_abs (hx : p.tables.exec = Jvm.exec) (hb : c.code = cc) (hml : c.maxLocals = ls.size) (hts : ∀ w ∈ TB, w.before args s = true) (hown : s.vm.findClass own = some m.cls) {idx : Nat} (hL : LM own idx Lib.Math.abs.name Lib.Math.abs.code 1) (hfr : 1 ≤ R.frames) (hlo : (rest.map fun v => v.category).sum + 13 ≤ R.locals) (hc : cells ≤ R.cells) (hs : slots ≤ R.slots) {x : Int32} (hd : decode cc pc = .ok (.invokestatic idx, 3))
    (kk : W p l e R s m args below meth c H locs cells slots Q (F0 m (pc + 3) ls (.int (if 0 ≤ x then x else 0 - x) :: rest))) : W p l e R s m args below meth c H locs cells slots Q (F0 m pc ls (.int x :: rest)) :=
  va_mabs hx hb hml hown (hts _ hL.1) (hts _ hL.2.1) (hts _ hL.2.2.1) (hts _ hL.2.2.2) hfr hlo hc hs hd kk
theorem x_max (hx : p.tables.exec = Jvm.exec) (hb : c.code = cc) (hml : c.maxLocals = ls.size) (hts : ∀ w ∈ TB, w.before args s = true) (hown : s.vm.findClass own = some m.cls) {idx : Nat} (hL : LM own idx Lib.Math.max.name Lib.Math.max.code 2) (hfr : 1 ≤ R.frames) (hlo : (rest.map fun v => v.category).sum + 13 ≤ R.locals) (hc : cells ≤ R.cells) (hs : slots ≤ R.slots) {x y : Int32} (hd : decode cc pc = .ok (.invokestatic idx, 3))
    (kk : W p l e R s m args below meth c H locs cells slots Q (F0 m (pc + 3) ls (.int (if x < y then y else x) :: rest))) : W p l e R s m args below meth c H locs cells slots Q (F0 m pc ls (.int y :: .int x :: rest)) :=
  va_mmax hx hb hml hown (hts _ hL.1) (hts _ hL.2.1) (hts _ hL.2.2.1) (hts _ hL.2.2.2) hfr hlo hc hs hd kk
/-- what the tables say of a call -/
def CL (own : String) (idx : Nat) (y : MethodName) (bytes : ByteArray) (nL : Nat) (ret : Option FieldType) (n : Nat) : Prop :=
  Cond.methodLink own idx y ∈ TB ∧ Cond.code y bytes nL ret ∈ TB ∧ Cond.initialized y.cls ∈ TB ∧ (y.cls ≠ "java/lang/invoke/MethodHandle" ∧ y.cls ≠ "java/lang/invoke/VarHandle") ∧ (parseMethodDescriptor y.desc).map (fun d => d.parameters.length) = some n
def CV (own : String) (idx : Nat) (y : MethodName) (bytes : ByteArray) (nL : Nat) (ret : Option FieldType) (n : Nat) : Prop := CL own idx y bytes nL ret n ∧ Cond.instanceMethod y ∈ TB ∧ Cond.selects y.cls y y ∈ TB
def CS (own : String) (idx : Nat) (y : MethodName) (bytes : ByteArray) (nL : Nat) (ret : Option FieldType) (n : Nat) : Prop := CL own idx y bytes nL ret n ∧ Cond.static y ∈ TB
def CN (y : MethodName) (bytes : ByteArray) (nL : Nat) (ret : Option FieldType) (n : Nat) : Prop :=
  Cond.code y bytes nL ret ∈ TB ∧ Cond.initialized y.cls ∈ TB ∧ (y.cls ≠ "java/lang/invoke/MethodHandle" ∧ y.cls ≠ "java/lang/invoke/VarHandle") ∧ (parseMethodDescriptor y.desc).map (fun d => d.parameters.length) = some n ∧ Cond.static y ∈ TB
theorem desc_len {y : MethodName} {n : Nat} (h : (parseMethodDescriptor y.desc).map (fun d => d.parameters.length) = some n) : ∀ sig, parseMethodDescriptor y.desc = some sig → n = sig.parameters.length := by
  intro sig hs
  rw [hs] at h
  exact (Option.some.inj h).symm
theorem CL.b {own : String} {idx : Nat} {y : MethodName} {bytes : ByteArray} {nL n fr lo : Nat} {ret : Option FieldType} {R : Room} {s : State} {args : Array Value} (h : CL own idx y bytes nL ret n) (hts : ∀ w ∈ TB, w.before args s = true) (hfr : fr + 1 ≤ R.frames) (hlo : 8 + (nL + 11) + lo ≤ R.locals) : CallB R s args own idx y bytes nL ret (Cond.code y bytes nL ret :: TB) (rmX fr lo) 0 0 n :=
  ⟨rfl, rfl, hfr, hlo, TB_pay hts h.2.1, List.mem_cons_self, hts _ h.2.1, hts _ h.2.2.1, h.2.2.2.1, desc_len h.2.2.2.2, hts _ h.1⟩
theorem x_cVi {y : MethodName} {bytes : ByteArray} {nL0 nL fr lo idx n : Nat} {ret : Option FieldType} {As st0 : List Value} {r : Int32} {q ci M : Nat} {T : u_T} (hx : p.tables.exec = Jvm.exec) (hb : c.code = cc) (hml : c.maxLocals = nL0) (hts : ∀ w ∈ TB, w.before args s = true) (hown : s.vm.findClass own = some m.cls) (hE : Ev κ s) (hP : Ho κ cf N ad σ H) (hS : va_S A H0 H locs) (hAA : ∀ z, Aof ad N z → A z) (hM : Met l y (Cond.code y bytes nL ret :: TB) (rmX fr lo) (PcX κ cf N ad σ (.ref (ad q) :: As)) (QI κ cf N ad σ' r) 0 0 (Aof ad N)) (hL : CV own idx y bytes nL ret n) (hq : q < N) (hg : ∃ fs, cf ad q (σ q) = .inr (ci, fs)) (hci : vwCl[ci]? = some (y.cls, T, M)) (hfr : fr + 1 ≤ R.frames) (hlo : 8 + (nL + 11) + lo ≤ R.locals) (hc : cells ≤ R.cells) (hs : slots ≤ R.slots) (hn : As.length = n) (hsz : ls.size = nL0) (hst : st0 = As.reverse ++ .ref (ad q) :: rest) (hr : (rest.map fun v => v.category).sum ≤ 8) (hd : decode cc pc = .ok (.invokevirtual idx, 3))
    (kk : ∀ (H : Heap) (locs : List Loc), Ho κ cf N ad σ' H → va_S A H0 H locs → W p l e R s m args below meth c H locs cells slots Q (F0 m (pc + 3) ls (.int r :: rest))) : W p l e R s m args below meth c H locs cells slots Q (F0 m pc ls st0) := by
  subst hst
  obtain ⟨fs, hfs⟩ := hg
  refine va_calli (va_runV (As := As) (rest := rest) ⟨hx, hb, hml, hown, hts⟩ hM ⟨hL.1.b hts hfr hlo, hts _ hL.2.1, hts _ hL.2.2⟩ ⟨blindX, va_recv hE.1 hP hci (q0 := q) (by rw [wl_at hq, hfs]), fun U hU hW => ⟨rfl, by rw [hU]; exact hP, hE.warm hW⟩⟩ rfl hn hsz rfl (lv_room hr) hd ⟨hc, hs⟩) hS (fun z _ h => hAA z h) hAA (fun r' u t H1 locs1 ht hvm hw hB hz hk hS1 => ?_)
  subst hw
  refine kk H1 locs1 ?_ hS1
  have hB2 : Ho κ cf N ad σ' t.heap := hB
  rwa [ht] at hB2
theorem x_cVv {y : MethodName} {bytes : ByteArray} {nL0 nL fr lo idx n : Nat} {ret : Option FieldType} {As st0 : List Value} {q ci M : Nat} {T : u_T} (hx : p.tables.exec = Jvm.exec) (hb : c.code = cc) (hml : c.maxLocals = nL0) (hts : ∀ w ∈ TB, w.before args s = true) (hown : s.vm.findClass own = some m.cls) (hE : Ev κ s) (hP : Ho κ cf N ad σ H) (hS : va_S A H0 H locs) (hAA : ∀ z, Aof ad N z → A z) (hM : Met l y (Cond.code y bytes nL ret :: TB) (rmX fr lo) (PcX κ cf N ad σ (.ref (ad q) :: As)) (QV κ cf N ad σ') 0 0 (Aof ad N)) (hL : CV own idx y bytes nL ret n) (hq : q < N) (hg : ∃ fs, cf ad q (σ q) = .inr (ci, fs)) (hci : vwCl[ci]? = some (y.cls, T, M)) (hfr : fr + 1 ≤ R.frames) (hlo : 8 + (nL + 11) + lo ≤ R.locals) (hc : cells ≤ R.cells) (hs : slots ≤ R.slots) (hn : As.length = n) (hsz : ls.size = nL0) (hst : st0 = As.reverse ++ .ref (ad q) :: rest) (hr : (rest.map fun v => v.category).sum ≤ 8) (hd : decode cc pc = .ok (.invokevirtual idx, 3))
    (kk : ∀ (H : Heap) (locs : List Loc), Ho κ cf N ad σ' H → va_S A H0 H locs → W p l e R s m args below meth c H locs cells slots Q (F0 m (pc + 3) ls rest)) : W p l e R s m args below meth c H locs cells slots Q (F0 m pc ls st0) := by
  subst hst
  obtain ⟨fs, hfs⟩ := hg
  refine va_callv (va_runV (As := As) (rest := rest) ⟨hx, hb, hml, hown, hts⟩ hM ⟨hL.1.b hts hfr hlo, hts _ hL.2.1, hts _ hL.2.2⟩ ⟨blindX, va_recv hE.1 hP hci (q0 := q) (by rw [wl_at hq, hfs]), fun U hU hW => ⟨rfl, by rw [hU]; exact hP, hE.warm hW⟩⟩ rfl hn hsz rfl (lv_room hr) hd ⟨hc, hs⟩) hS (fun z _ h => hAA z h) hAA (fun u t H1 locs1 ht hvm hw hB hz hk hS1 => ?_)
  refine kk H1 locs1 ?_ hS1
  have hB2 : Ho κ cf N ad σ' t.heap := hB
  rwa [ht] at hB2
theorem x_cSi {y : MethodName} {bytes : ByteArray} {nL0 nL fr lo idx n : Nat} {ret : Option FieldType} {As st0 : List Value} {r : Int32} (hx : p.tables.exec = Jvm.exec) (hb : c.code = cc) (hml : c.maxLocals = nL0) (hts : ∀ w ∈ TB, w.before args s = true) (hown : s.vm.findClass own = some m.cls) (hE : Ev κ s) (hP : Ho κ cf N ad σ H) (hS : va_S A H0 H locs) (hAA : ∀ z, Aof ad N z → A z) (hM : Met l y (Cond.code y bytes nL ret :: TB) (rmX fr lo) (PcX κ cf N ad σ As) (QI κ cf N ad σ' r) 0 0 (Aof ad N)) (hL : CS own idx y bytes nL ret n) (hfr : fr + 1 ≤ R.frames) (hlo : 8 + (nL + 11) + lo ≤ R.locals) (hc : cells ≤ R.cells) (hs : slots ≤ R.slots) (hn : As.length = n) (hsz : ls.size = nL0) (hst : st0 = As.reverse ++ rest) (hr : (rest.map fun v => v.category).sum ≤ 8) (hd : decode cc pc = .ok (.invokestatic idx, 3))
    (kk : ∀ (H : Heap) (locs : List Loc), Ho κ cf N ad σ' H → va_S A H0 H locs → W p l e R s m args below meth c H locs cells slots Q (F0 m (pc + 3) ls (.int r :: rest))) : W p l e R s m args below meth c H locs cells slots Q (F0 m pc ls st0) := by
  subst hst
  refine va_calli (va_runS (As := As) (rest := rest) ⟨hx, hb, hml, hown, hts⟩ hM ⟨hL.1.b hts hfr hlo, hts _ hL.2⟩ ⟨blindX, fun U hU hW => ⟨rfl, by rw [hU]; exact hP, hE.warm hW⟩⟩ rfl hn hsz rfl (lv_room hr) hd ⟨hc, hs⟩) hS (fun z _ h => hAA z h) hAA (fun r' u t H1 locs1 ht hvm hw hB hz hk hS1 => ?_)
  subst hw
  refine kk H1 locs1 ?_ hS1
  have hB2 : Ho κ cf N ad σ' t.heap := hB
  rwa [ht] at hB2
theorem x_cNi {y : MethodName} {bytes : ByteArray} {nL0 nL fr lo idx n : Nat} {ret : Option FieldType} {As st0 : List Value} {r : Int32} {host : String} (hx : p.tables.exec = Jvm.exec) (hb : c.code = cc) (hml : c.maxLocals = nL0) (hts : ∀ w ∈ TB, w.before args s = true) (hown : s.vm.findClass own = some m.cls) (hE : Ev κ s) (hP : Ho κ cf N ad σ H) (hS : va_S A H0 H locs) (hAA : ∀ z, Aof ad N z → A z) (hM : Met l y (Cond.code y bytes nL ret :: TB) (rmX fr lo) (PcX κ cf N ad σ As) (QI κ cf N ad σ' r) 0 0 (Aof ad N)) (hL : CN y bytes nL ret n) (hnest : va_Nw (.methodLinkNest own idx y host) s) (hfr : fr + 1 ≤ R.frames) (hlo : 8 + (nL + 11) + lo ≤ R.locals) (hc : cells ≤ R.cells) (hs : slots ≤ R.slots) (hn : As.length = n) (hsz : ls.size = nL0) (hst : st0 = As.reverse ++ rest) (hr : (rest.map fun v => v.category).sum ≤ 8) (hd : decode cc pc = .ok (.invokestatic idx, 3))
    (kk : ∀ (H : Heap) (locs : List Loc), Ho κ cf N ad σ' H → va_S A H0 H locs → W p l e R s m args below meth c H locs cells slots Q (F0 m (pc + 3) ls (.int r :: rest))) : W p l e R s m args below meth c H locs cells slots Q (F0 m pc ls st0) := by
  subst hst
  refine va_calli (va_runSN (As := As) (rest := rest) ⟨hx, hb, hml, hown, hts⟩ hM ⟨⟨⟨rfl, rfl, hfr, hlo, TB_pay hts hL.1, List.mem_cons_self⟩, hts _ hL.1, hts _ hL.2.1, hL.2.2.1, desc_len hL.2.2.2.1, va_Nw.use rfl hnest⟩, hts _ hL.2.2.2.2, trivial⟩ ⟨blindX, fun U hU hW => ⟨rfl, by rw [hU]; exact hP, hE.warm hW⟩⟩ rfl hn hsz rfl (lv_room hr) hd ⟨hc, hs⟩) hS (fun z _ h => hAA z h) hAA (fun r' u t H1 locs1 ht hvm hw hB hz hk hS1 => ?_)
  subst hw
  refine kk H1 locs1 ?_ hS1
  have hB2 : Ho κ cf N ad σ' t.heap := hB
  rwa [ht] at hB2
end XR
end
section
def wX (κ : Kp) (tl : Nat) : cfT := fun ad k f => match k with
  | 0 => .inl (κ.2.2.1, tl, .inl f)
  | 1 => .inr (5, [.ref (ad 2), .int (f 1)])
  | 2 => .inl (κ.2.1, 4, .inl f)
  | 3 => .inr (6, [.ref (ad 4), .ref (ad 5), .ref (ad 6), .ref (ad 7), .ref (ad 8), .ref (ad 9), .ref (ad 10), .ref (ad 11), .ref (ad 12), .ref (ad 13), .ref (ad 14), .ref (ad 15), .int (f 12), .int (f 13), .int (f 14), .int (f 15), .int (f 16), .int (f 17)])
  | 4 => .inl (κ.2.1, 8, .inl f)
  | 5 => .inl (κ.2.1, 8, .inl f)
  | 6 => .inl (κ.2.1, 8, .inl f)
  | 7 => .inl (κ.2.1, 8, .inl f)
  | 8 => .inl (κ.2.1, 8, .inl f)
  | 9 => .inl (κ.2.1, 8, .inl f)
  | 10 => .inl (κ.2.1, 8, .inl f)
  | 11 => .inl (κ.2.1, 8, .inl f)
  | 12 => .inl (κ.2.1, 8, .inl f)
  | 13 => .inl (κ.2.1, 4, .inl f)
  | 14 => .inl (κ.2.1, 4, .inl f)
  | 15 => .inl (κ.2.1, 201, .inl f)
  | 16 => .inr (8, [.ref (ad 0), .int (f 1), .ref (ad 1), .ref (ad (f 3).toNatClampNeg), .ref (ad (f 4).toNatClampNeg), .ref (ad 30), .ref (ad 37), .ref (ad 41), .ref (ad 44), .ref (ad 47), .ref (ad 50)])
  | 17 => .inr (6, [.ref (ad 18), .ref (ad 19), .ref (ad 20), .ref (ad 21), .ref (ad 22), .ref (ad 23), .ref (ad 24), .ref (ad 25), .ref (ad 26), .ref (ad 27), .ref (ad 28), .ref (ad 29), .int (f 12), .int (f 13), .int (f 14), .int (f 15), .int (f 16), .int (f 17)])
  | 18 => .inl (κ.2.1, 8, .inl f)
  | 19 => .inl (κ.2.1, 8, .inl f)
  | 20 => .inl (κ.2.1, 8, .inl f)
  | 21 => .inl (κ.2.1, 8, .inl f)
  | 22 => .inl (κ.2.1, 8, .inl f)
  | 23 => .inl (κ.2.1, 8, .inl f)
  | 24 => .inl (κ.2.1, 8, .inl f)
  | 25 => .inl (κ.2.1, 8, .inl f)
  | 26 => .inl (κ.2.1, 8, .inl f)
  | 27 => .inl (κ.2.1, 4, .inl f)
  | 28 => .inl (κ.2.1, 4, .inl f)
  | 29 => .inl (κ.2.1, 201, .inl f)
  | 30 => .inr (4, [.ref (ad 31), .ref (ad 32), .ref (ad 33), .ref (ad 34), .ref (ad 35), .ref (ad 36), .ref (ad (f 6).toNatClampNeg), .ref (ad (f 7).toNatClampNeg), .int (f 8), .int (f 9), .int (f 10), .int (f 11), .int (f 12), .int (f 13), .int (f 14)])
  | 31 => .inl (κ.2.1, 8, .inl f)
  | 32 => .inl (κ.2.1, 8, .inl f)
  | 33 => .inl (κ.2.1, 8, .inl f)
  | 34 => .inl (κ.2.1, 8, .inl f)
  | 35 => .inl (κ.2.1, 8, .inl f)
  | 36 => .inl (κ.2.1, 201, .inl f)
  | 37 => .inr (1, [.ref (ad 38), .ref (ad 39), .ref (ad 40), .int (f 3)])
  | 38 => .inl (κ.2.1, 8, .inl f)
  | 39 => .inl (κ.2.1, 8, .inl f)
  | 40 => .inl (κ.2.1, 8, .inl f)
  | 41 => .inr (3, [.ref (ad 42), .ref (ad 43), .int (f 2)])
  | 42 => .inl (κ.2.1, 16, .inl f)
  | 43 => .inl (κ.2.1, 16, .inl f)
  | 44 => .inr (7, [.ref (ad 45), .ref (ad 46), .int (f 2)])
  | 45 => .inl (κ.2.1, 6, .inl f)
  | 46 => .inl (κ.2.1, 6, .inl f)
  | 47 => .inr (0, [.ref (ad 48), .ref (ad 49)])
  | 48 => .inl (κ.2.1, 100, .inl f)
  | 49 => .inl (κ.2.1, 100, .inl f)
  | 50 => .inr (2, [.ref (ad 51)])
  | _ => .inl (κ.2.1, 256, .inl f)
theorem aX_0 {κ : Kp} {tl : Nat} {ad : Nat → Nat} : ∀ f, wX κ tl ad 0 f = .inl (κ.2.2.1, tl, .inl f) := fun _ => rfl
theorem oX_1 {κ : Kp} {tl : Nat} {ad : Nat → Nat} {f : Nat → Int32} : ∃ fs, wX κ tl ad 1 f = .inr (5, fs) := ⟨_, rfl⟩
theorem gX_1_0 {κ : Kp} {tl : Nat} {ad : Nat → Nat} {f : Nat → Int32} : ∃ fs, wX κ tl ad 1 f = .inr (5, fs) ∧ fs[0]? = some (.ref (ad 2)) := ⟨_, rfl, rfl⟩
theorem gX_1_1 {κ : Kp} {tl : Nat} {ad : Nat → Nat} {f : Nat → Int32} : ∃ fs, wX κ tl ad 1 f = .inr (5, fs) ∧ fs[1]? = some (.int (f 1)) := ⟨_, rfl, rfl⟩
theorem pX_1_1 {κ : Kp} {tl : Nat} {ad : Nat → Nat} {f : Nat → Int32} {x : Int32} : ∃ fs, wX κ tl ad 1 f = .inr (5, fs) ∧ 1 < fs.length ∧ wX κ tl ad 1 (upd f 1 x) = .inr (5, fs.set 1 (.int x)) := ⟨_, rfl, Nat.le_of_ble_eq_true rfl, rfl⟩
theorem aX_2 {κ : Kp} {tl : Nat} {ad : Nat → Nat} : ∀ f, wX κ tl ad 2 f = .inl (κ.2.1, 4, .inl f) := fun _ => rfl
theorem oX_3 {κ : Kp} {tl : Nat} {ad : Nat → Nat} {f : Nat → Int32} : ∃ fs, wX κ tl ad 3 f = .inr (6, fs) := ⟨_, rfl⟩
theorem gX_3_0 {κ : Kp} {tl : Nat} {ad : Nat → Nat} {f : Nat → Int32} : ∃ fs, wX κ tl ad 3 f = .inr (6, fs) ∧ fs[0]? = some (.ref (ad 4)) := ⟨_, rfl, rfl⟩
theorem gX_3_1 {κ : Kp} {tl : Nat} {ad : Nat → Nat} {f : Nat → Int32} : ∃ fs, wX κ tl ad 3 f = .inr (6, fs) ∧ fs[1]? = some (.ref (ad 5)) := ⟨_, rfl, rfl⟩
theorem gX_3_2 {κ : Kp} {tl : Nat} {ad : Nat → Nat} {f : Nat → Int32} : ∃ fs, wX κ tl ad 3 f = .inr (6, fs) ∧ fs[2]? = some (.ref (ad 6)) := ⟨_, rfl, rfl⟩
theorem gX_3_3 {κ : Kp} {tl : Nat} {ad : Nat → Nat} {f : Nat → Int32} : ∃ fs, wX κ tl ad 3 f = .inr (6, fs) ∧ fs[3]? = some (.ref (ad 7)) := ⟨_, rfl, rfl⟩
theorem gX_3_4 {κ : Kp} {tl : Nat} {ad : Nat → Nat} {f : Nat → Int32} : ∃ fs, wX κ tl ad 3 f = .inr (6, fs) ∧ fs[4]? = some (.ref (ad 8)) := ⟨_, rfl, rfl⟩
theorem gX_3_5 {κ : Kp} {tl : Nat} {ad : Nat → Nat} {f : Nat → Int32} : ∃ fs, wX κ tl ad 3 f = .inr (6, fs) ∧ fs[5]? = some (.ref (ad 9)) := ⟨_, rfl, rfl⟩
theorem gX_3_6 {κ : Kp} {tl : Nat} {ad : Nat → Nat} {f : Nat → Int32} : ∃ fs, wX κ tl ad 3 f = .inr (6, fs) ∧ fs[6]? = some (.ref (ad 10)) := ⟨_, rfl, rfl⟩
theorem gX_3_7 {κ : Kp} {tl : Nat} {ad : Nat → Nat} {f : Nat → Int32} : ∃ fs, wX κ tl ad 3 f = .inr (6, fs) ∧ fs[7]? = some (.ref (ad 11)) := ⟨_, rfl, rfl⟩
theorem gX_3_8 {κ : Kp} {tl : Nat} {ad : Nat → Nat} {f : Nat → Int32} : ∃ fs, wX κ tl ad 3 f = .inr (6, fs) ∧ fs[8]? = some (.ref (ad 12)) := ⟨_, rfl, rfl⟩
theorem gX_3_9 {κ : Kp} {tl : Nat} {ad : Nat → Nat} {f : Nat → Int32} : ∃ fs, wX κ tl ad 3 f = .inr (6, fs) ∧ fs[9]? = some (.ref (ad 13)) := ⟨_, rfl, rfl⟩
theorem gX_3_10 {κ : Kp} {tl : Nat} {ad : Nat → Nat} {f : Nat → Int32} : ∃ fs, wX κ tl ad 3 f = .inr (6, fs) ∧ fs[10]? = some (.ref (ad 14)) := ⟨_, rfl, rfl⟩
theorem gX_3_11 {κ : Kp} {tl : Nat} {ad : Nat → Nat} {f : Nat → Int32} : ∃ fs, wX κ tl ad 3 f = .inr (6, fs) ∧ fs[11]? = some (.ref (ad 15)) := ⟨_, rfl, rfl⟩
theorem gX_3_12 {κ : Kp} {tl : Nat} {ad : Nat → Nat} {f : Nat → Int32} : ∃ fs, wX κ tl ad 3 f = .inr (6, fs) ∧ fs[12]? = some (.int (f 12)) := ⟨_, rfl, rfl⟩
theorem pX_3_12 {κ : Kp} {tl : Nat} {ad : Nat → Nat} {f : Nat → Int32} {x : Int32} : ∃ fs, wX κ tl ad 3 f = .inr (6, fs) ∧ 12 < fs.length ∧ wX κ tl ad 3 (upd f 12 x) = .inr (6, fs.set 12 (.int x)) := ⟨_, rfl, Nat.le_of_ble_eq_true rfl, rfl⟩
theorem gX_3_13 {κ : Kp} {tl : Nat} {ad : Nat → Nat} {f : Nat → Int32} : ∃ fs, wX κ tl ad 3 f = .inr (6, fs) ∧ fs[13]? = some (.int (f 13)) := ⟨_, rfl, rfl⟩
theorem pX_3_13 {κ : Kp} {tl : Nat} {ad : Nat → Nat} {f : Nat → Int32} {x : Int32} : ∃ fs, wX κ tl ad 3 f = .inr (6, fs) ∧ 13 < fs.length ∧ wX κ tl ad 3 (upd f 13 x) = .inr (6, fs.set 13 (.int x)) := ⟨_, rfl, Nat.le_of_ble_eq_true rfl, rfl⟩
theorem gX_3_14 {κ : Kp} {tl : Nat} {ad : Nat → Nat} {f : Nat → Int32} : ∃ fs, wX κ tl ad 3 f = .inr (6, fs) ∧ fs[14]? = some (.int (f 14)) := ⟨_, rfl, rfl⟩
theorem pX_3_14 {κ : Kp} {tl : Nat} {ad : Nat → Nat} {f : Nat → Int32} {x : Int32} : ∃ fs, wX κ tl ad 3 f = .inr (6, fs) ∧ 14 < fs.length ∧ wX κ tl ad 3 (upd f 14 x) = .inr (6, fs.set 14 (.int x)) := ⟨_, rfl, Nat.le_of_ble_eq_true rfl, rfl⟩
theorem gX_3_15 {κ : Kp} {tl : Nat} {ad : Nat → Nat} {f : Nat → Int32} : ∃ fs, wX κ tl ad 3 f = .inr (6, fs) ∧ fs[15]? = some (.int (f 15)) := ⟨_, rfl, rfl⟩
theorem pX_3_15 {κ : Kp} {tl : Nat} {ad : Nat → Nat} {f : Nat → Int32} {x : Int32} : ∃ fs, wX κ tl ad 3 f = .inr (6, fs) ∧ 15 < fs.length ∧ wX κ tl ad 3 (upd f 15 x) = .inr (6, fs.set 15 (.int x)) := ⟨_, rfl, Nat.le_of_ble_eq_true rfl, rfl⟩
theorem gX_3_16 {κ : Kp} {tl : Nat} {ad : Nat → Nat} {f : Nat → Int32} : ∃ fs, wX κ tl ad 3 f = .inr (6, fs) ∧ fs[16]? = some (.int (f 16)) := ⟨_, rfl, rfl⟩
theorem pX_3_16 {κ : Kp} {tl : Nat} {ad : Nat → Nat} {f : Nat → Int32} {x : Int32} : ∃ fs, wX κ tl ad 3 f = .inr (6, fs) ∧ 16 < fs.length ∧ wX κ tl ad 3 (upd f 16 x) = .inr (6, fs.set 16 (.int x)) := ⟨_, rfl, Nat.le_of_ble_eq_true rfl, rfl⟩
theorem gX_3_17 {κ : Kp} {tl : Nat} {ad : Nat → Nat} {f : Nat → Int32} : ∃ fs, wX κ tl ad 3 f = .inr (6, fs) ∧ fs[17]? = some (.int (f 17)) := ⟨_, rfl, rfl⟩
theorem pX_3_17 {κ : Kp} {tl : Nat} {ad : Nat → Nat} {f : Nat → Int32} {x : Int32} : ∃ fs, wX κ tl ad 3 f = .inr (6, fs) ∧ 17 < fs.length ∧ wX κ tl ad 3 (upd f 17 x) = .inr (6, fs.set 17 (.int x)) := ⟨_, rfl, Nat.le_of_ble_eq_true rfl, rfl⟩
theorem aX_4 {κ : Kp} {tl : Nat} {ad : Nat → Nat} : ∀ f, wX κ tl ad 4 f = .inl (κ.2.1, 8, .inl f) := fun _ => rfl
theorem aX_5 {κ : Kp} {tl : Nat} {ad : Nat → Nat} : ∀ f, wX κ tl ad 5 f = .inl (κ.2.1, 8, .inl f) := fun _ => rfl
theorem aX_6 {κ : Kp} {tl : Nat} {ad : Nat → Nat} : ∀ f, wX κ tl ad 6 f = .inl (κ.2.1, 8, .inl f) := fun _ => rfl
theorem aX_7 {κ : Kp} {tl : Nat} {ad : Nat → Nat} : ∀ f, wX κ tl ad 7 f = .inl (κ.2.1, 8, .inl f) := fun _ => rfl
theorem aX_8 {κ : Kp} {tl : Nat} {ad : Nat → Nat} : ∀ f, wX κ tl ad 8 f = .inl (κ.2.1, 8, .inl f) := fun _ => rfl
theorem aX_9 {κ : Kp} {tl : Nat} {ad : Nat → Nat} : ∀ f, wX κ tl ad 9 f = .inl (κ.2.1, 8, .inl f) := fun _ => rfl
theorem aX_10 {κ : Kp} {tl : Nat} {ad : Nat → Nat} : ∀ f, wX κ tl ad 10 f = .inl (κ.2.1, 8, .inl f) := fun _ => rfl
theorem aX_11 {κ : Kp} {tl : Nat} {ad : Nat → Nat} : ∀ f, wX κ tl ad 11 f = .inl (κ.2.1, 8, .inl f) := fun _ => rfl
theorem aX_12 {κ : Kp} {tl : Nat} {ad : Nat → Nat} : ∀ f, wX κ tl ad 12 f = .inl (κ.2.1, 8, .inl f) := fun _ => rfl
theorem aX_13 {κ : Kp} {tl : Nat} {ad : Nat → Nat} : ∀ f, wX κ tl ad 13 f = .inl (κ.2.1, 4, .inl f) := fun _ => rfl
theorem aX_14 {κ : Kp} {tl : Nat} {ad : Nat → Nat} : ∀ f, wX κ tl ad 14 f = .inl (κ.2.1, 4, .inl f) := fun _ => rfl
theorem aX_15 {κ : Kp} {tl : Nat} {ad : Nat → Nat} : ∀ f, wX κ tl ad 15 f = .inl (κ.2.1, 201, .inl f) := fun _ => rfl
theorem oX_16 {κ : Kp} {tl : Nat} {ad : Nat → Nat} {f : Nat → Int32} : ∃ fs, wX κ tl ad 16 f = .inr (8, fs) := ⟨_, rfl⟩
theorem gX_16_0 {κ : Kp} {tl : Nat} {ad : Nat → Nat} {f : Nat → Int32} : ∃ fs, wX κ tl ad 16 f = .inr (8, fs) ∧ fs[0]? = some (.ref (ad 0)) := ⟨_, rfl, rfl⟩
theorem gX_16_1 {κ : Kp} {tl : Nat} {ad : Nat → Nat} {f : Nat → Int32} : ∃ fs, wX κ tl ad 16 f = .inr (8, fs) ∧ fs[1]? = some (.int (f 1)) := ⟨_, rfl, rfl⟩
theorem pX_16_1 {κ : Kp} {tl : Nat} {ad : Nat → Nat} {f : Nat → Int32} {x : Int32} : ∃ fs, wX κ tl ad 16 f = .inr (8, fs) ∧ 1 < fs.length ∧ wX κ tl ad 16 (upd f 1 x) = .inr (8, fs.set 1 (.int x)) := ⟨_, rfl, Nat.le_of_ble_eq_true rfl, rfl⟩
theorem gX_16_2 {κ : Kp} {tl : Nat} {ad : Nat → Nat} {f : Nat → Int32} : ∃ fs, wX κ tl ad 16 f = .inr (8, fs) ∧ fs[2]? = some (.ref (ad 1)) := ⟨_, rfl, rfl⟩
theorem gX_16_3 {κ : Kp} {tl : Nat} {ad : Nat → Nat} {f : Nat → Int32} : ∃ fs, wX κ tl ad 16 f = .inr (8, fs) ∧ fs[3]? = some (.ref (ad (f 3).toNatClampNeg)) := ⟨_, rfl, rfl⟩
theorem pX_16_3 {κ : Kp} {tl : Nat} {ad : Nat → Nat} {f : Nat → Int32} {x : Int32} : ∃ fs, wX κ tl ad 16 f = .inr (8, fs) ∧ 3 < fs.length ∧ wX κ tl ad 16 (upd f 3 x) = .inr (8, fs.set 3 (.ref (ad x.toNatClampNeg))) := ⟨_, rfl, Nat.le_of_ble_eq_true rfl, rfl⟩
theorem gX_16_4 {κ : Kp} {tl : Nat} {ad : Nat → Nat} {f : Nat → Int32} : ∃ fs, wX κ tl ad 16 f = .inr (8, fs) ∧ fs[4]? = some (.ref (ad (f 4).toNatClampNeg)) := ⟨_, rfl, rfl⟩
theorem pX_16_4 {κ : Kp} {tl : Nat} {ad : Nat → Nat} {f : Nat → Int32} {x : Int32} : ∃ fs, wX κ tl ad 16 f = .inr (8, fs) ∧ 4 < fs.length ∧ wX κ tl ad 16 (upd f 4 x) = .inr (8, fs.set 4 (.ref (ad x.toNatClampNeg))) := ⟨_, rfl, Nat.le_of_ble_eq_true rfl, rfl⟩
theorem gX_16_5 {κ : Kp} {tl : Nat} {ad : Nat → Nat} {f : Nat → Int32} : ∃ fs, wX κ tl ad 16 f = .inr (8, fs) ∧ fs[5]? = some (.ref (ad 30)) := ⟨_, rfl, rfl⟩
theorem gX_16_6 {κ : Kp} {tl : Nat} {ad : Nat → Nat} {f : Nat → Int32} : ∃ fs, wX κ tl ad 16 f = .inr (8, fs) ∧ fs[6]? = some (.ref (ad 37)) := ⟨_, rfl, rfl⟩
theorem gX_16_7 {κ : Kp} {tl : Nat} {ad : Nat → Nat} {f : Nat → Int32} : ∃ fs, wX κ tl ad 16 f = .inr (8, fs) ∧ fs[7]? = some (.ref (ad 41)) := ⟨_, rfl, rfl⟩
theorem gX_16_8 {κ : Kp} {tl : Nat} {ad : Nat → Nat} {f : Nat → Int32} : ∃ fs, wX κ tl ad 16 f = .inr (8, fs) ∧ fs[8]? = some (.ref (ad 44)) := ⟨_, rfl, rfl⟩
theorem gX_16_9 {κ : Kp} {tl : Nat} {ad : Nat → Nat} {f : Nat → Int32} : ∃ fs, wX κ tl ad 16 f = .inr (8, fs) ∧ fs[9]? = some (.ref (ad 47)) := ⟨_, rfl, rfl⟩
theorem gX_16_10 {κ : Kp} {tl : Nat} {ad : Nat → Nat} {f : Nat → Int32} : ∃ fs, wX κ tl ad 16 f = .inr (8, fs) ∧ fs[10]? = some (.ref (ad 50)) := ⟨_, rfl, rfl⟩
theorem oX_17 {κ : Kp} {tl : Nat} {ad : Nat → Nat} {f : Nat → Int32} : ∃ fs, wX κ tl ad 17 f = .inr (6, fs) := ⟨_, rfl⟩
theorem gX_17_0 {κ : Kp} {tl : Nat} {ad : Nat → Nat} {f : Nat → Int32} : ∃ fs, wX κ tl ad 17 f = .inr (6, fs) ∧ fs[0]? = some (.ref (ad 18)) := ⟨_, rfl, rfl⟩
theorem gX_17_1 {κ : Kp} {tl : Nat} {ad : Nat → Nat} {f : Nat → Int32} : ∃ fs, wX κ tl ad 17 f = .inr (6, fs) ∧ fs[1]? = some (.ref (ad 19)) := ⟨_, rfl, rfl⟩
theorem gX_17_2 {κ : Kp} {tl : Nat} {ad : Nat → Nat} {f : Nat → Int32} : ∃ fs, wX κ tl ad 17 f = .inr (6, fs) ∧ fs[2]? = some (.ref (ad 20)) := ⟨_, rfl, rfl⟩
theorem gX_17_3 {κ : Kp} {tl : Nat} {ad : Nat → Nat} {f : Nat → Int32} : ∃ fs, wX κ tl ad 17 f = .inr (6, fs) ∧ fs[3]? = some (.ref (ad 21)) := ⟨_, rfl, rfl⟩
theorem gX_17_4 {κ : Kp} {tl : Nat} {ad : Nat → Nat} {f : Nat → Int32} : ∃ fs, wX κ tl ad 17 f = .inr (6, fs) ∧ fs[4]? = some (.ref (ad 22)) := ⟨_, rfl, rfl⟩
theorem gX_17_5 {κ : Kp} {tl : Nat} {ad : Nat → Nat} {f : Nat → Int32} : ∃ fs, wX κ tl ad 17 f = .inr (6, fs) ∧ fs[5]? = some (.ref (ad 23)) := ⟨_, rfl, rfl⟩
theorem gX_17_6 {κ : Kp} {tl : Nat} {ad : Nat → Nat} {f : Nat → Int32} : ∃ fs, wX κ tl ad 17 f = .inr (6, fs) ∧ fs[6]? = some (.ref (ad 24)) := ⟨_, rfl, rfl⟩
theorem gX_17_7 {κ : Kp} {tl : Nat} {ad : Nat → Nat} {f : Nat → Int32} : ∃ fs, wX κ tl ad 17 f = .inr (6, fs) ∧ fs[7]? = some (.ref (ad 25)) := ⟨_, rfl, rfl⟩
theorem gX_17_8 {κ : Kp} {tl : Nat} {ad : Nat → Nat} {f : Nat → Int32} : ∃ fs, wX κ tl ad 17 f = .inr (6, fs) ∧ fs[8]? = some (.ref (ad 26)) := ⟨_, rfl, rfl⟩
theorem gX_17_9 {κ : Kp} {tl : Nat} {ad : Nat → Nat} {f : Nat → Int32} : ∃ fs, wX κ tl ad 17 f = .inr (6, fs) ∧ fs[9]? = some (.ref (ad 27)) := ⟨_, rfl, rfl⟩
theorem gX_17_10 {κ : Kp} {tl : Nat} {ad : Nat → Nat} {f : Nat → Int32} : ∃ fs, wX κ tl ad 17 f = .inr (6, fs) ∧ fs[10]? = some (.ref (ad 28)) := ⟨_, rfl, rfl⟩
theorem gX_17_11 {κ : Kp} {tl : Nat} {ad : Nat → Nat} {f : Nat → Int32} : ∃ fs, wX κ tl ad 17 f = .inr (6, fs) ∧ fs[11]? = some (.ref (ad 29)) := ⟨_, rfl, rfl⟩
theorem gX_17_12 {κ : Kp} {tl : Nat} {ad : Nat → Nat} {f : Nat → Int32} : ∃ fs, wX κ tl ad 17 f = .inr (6, fs) ∧ fs[12]? = some (.int (f 12)) := ⟨_, rfl, rfl⟩
theorem pX_17_12 {κ : Kp} {tl : Nat} {ad : Nat → Nat} {f : Nat → Int32} {x : Int32} : ∃ fs, wX κ tl ad 17 f = .inr (6, fs) ∧ 12 < fs.length ∧ wX κ tl ad 17 (upd f 12 x) = .inr (6, fs.set 12 (.int x)) := ⟨_, rfl, Nat.le_of_ble_eq_true rfl, rfl⟩
theorem gX_17_13 {κ : Kp} {tl : Nat} {ad : Nat → Nat} {f : Nat → Int32} : ∃ fs, wX κ tl ad 17 f = .inr (6, fs) ∧ fs[13]? = some (.int (f 13)) := ⟨_, rfl, rfl⟩
theorem pX_17_13 {κ : Kp} {tl : Nat} {ad : Nat → Nat} {f : Nat → Int32} {x : Int32} : ∃ fs, wX κ tl ad 17 f = .inr (6, fs) ∧ 13 < fs.length ∧ wX κ tl ad 17 (upd f 13 x) = .inr (6, fs.set 13 (.int x)) := ⟨_, rfl, Nat.le_of_ble_eq_true rfl, rfl⟩
theorem gX_17_14 {κ : Kp} {tl : Nat} {ad : Nat → Nat} {f : Nat → Int32} : ∃ fs, wX κ tl ad 17 f = .inr (6, fs) ∧ fs[14]? = some (.int (f 14)) := ⟨_, rfl, rfl⟩
theorem pX_17_14 {κ : Kp} {tl : Nat} {ad : Nat → Nat} {f : Nat → Int32} {x : Int32} : ∃ fs, wX κ tl ad 17 f = .inr (6, fs) ∧ 14 < fs.length ∧ wX κ tl ad 17 (upd f 14 x) = .inr (6, fs.set 14 (.int x)) := ⟨_, rfl, Nat.le_of_ble_eq_true rfl, rfl⟩
theorem gX_17_15 {κ : Kp} {tl : Nat} {ad : Nat → Nat} {f : Nat → Int32} : ∃ fs, wX κ tl ad 17 f = .inr (6, fs) ∧ fs[15]? = some (.int (f 15)) := ⟨_, rfl, rfl⟩
theorem pX_17_15 {κ : Kp} {tl : Nat} {ad : Nat → Nat} {f : Nat → Int32} {x : Int32} : ∃ fs, wX κ tl ad 17 f = .inr (6, fs) ∧ 15 < fs.length ∧ wX κ tl ad 17 (upd f 15 x) = .inr (6, fs.set 15 (.int x)) := ⟨_, rfl, Nat.le_of_ble_eq_true rfl, rfl⟩
theorem gX_17_16 {κ : Kp} {tl : Nat} {ad : Nat → Nat} {f : Nat → Int32} : ∃ fs, wX κ tl ad 17 f = .inr (6, fs) ∧ fs[16]? = some (.int (f 16)) := ⟨_, rfl, rfl⟩
theorem pX_17_16 {κ : Kp} {tl : Nat} {ad : Nat → Nat} {f : Nat → Int32} {x : Int32} : ∃ fs, wX κ tl ad 17 f = .inr (6, fs) ∧ 16 < fs.length ∧ wX κ tl ad 17 (upd f 16 x) = .inr (6, fs.set 16 (.int x)) := ⟨_, rfl, Nat.le_of_ble_eq_true rfl, rfl⟩
theorem gX_17_17 {κ : Kp} {tl : Nat} {ad : Nat → Nat} {f : Nat → Int32} : ∃ fs, wX κ tl ad 17 f = .inr (6, fs) ∧ fs[17]? = some (.int (f 17)) := ⟨_, rfl, rfl⟩
theorem pX_17_17 {κ : Kp} {tl : Nat} {ad : Nat → Nat} {f : Nat → Int32} {x : Int32} : ∃ fs, wX κ tl ad 17 f = .inr (6, fs) ∧ 17 < fs.length ∧ wX κ tl ad 17 (upd f 17 x) = .inr (6, fs.set 17 (.int x)) := ⟨_, rfl, Nat.le_of_ble_eq_true rfl, rfl⟩
theorem aX_18 {κ : Kp} {tl : Nat} {ad : Nat → Nat} : ∀ f, wX κ tl ad 18 f = .inl (κ.2.1, 8, .inl f) := fun _ => rfl
theorem aX_19 {κ : Kp} {tl : Nat} {ad : Nat → Nat} : ∀ f, wX κ tl ad 19 f = .inl (κ.2.1, 8, .inl f) := fun _ => rfl
theorem aX_20 {κ : Kp} {tl : Nat} {ad : Nat → Nat} : ∀ f, wX κ tl ad 20 f = .inl (κ.2.1, 8, .inl f) := fun _ => rfl
theorem aX_21 {κ : Kp} {tl : Nat} {ad : Nat → Nat} : ∀ f, wX κ tl ad 21 f = .inl (κ.2.1, 8, .inl f) := fun _ => rfl
theorem aX_22 {κ : Kp} {tl : Nat} {ad : Nat → Nat} : ∀ f, wX κ tl ad 22 f = .inl (κ.2.1, 8, .inl f) := fun _ => rfl
theorem aX_23 {κ : Kp} {tl : Nat} {ad : Nat → Nat} : ∀ f, wX κ tl ad 23 f = .inl (κ.2.1, 8, .inl f) := fun _ => rfl
theorem aX_24 {κ : Kp} {tl : Nat} {ad : Nat → Nat} : ∀ f, wX κ tl ad 24 f = .inl (κ.2.1, 8, .inl f) := fun _ => rfl
theorem aX_25 {κ : Kp} {tl : Nat} {ad : Nat → Nat} : ∀ f, wX κ tl ad 25 f = .inl (κ.2.1, 8, .inl f) := fun _ => rfl
theorem aX_26 {κ : Kp} {tl : Nat} {ad : Nat → Nat} : ∀ f, wX κ tl ad 26 f = .inl (κ.2.1, 8, .inl f) := fun _ => rfl
theorem aX_27 {κ : Kp} {tl : Nat} {ad : Nat → Nat} : ∀ f, wX κ tl ad 27 f = .inl (κ.2.1, 4, .inl f) := fun _ => rfl
theorem aX_28 {κ : Kp} {tl : Nat} {ad : Nat → Nat} : ∀ f, wX κ tl ad 28 f = .inl (κ.2.1, 4, .inl f) := fun _ => rfl
theorem aX_29 {κ : Kp} {tl : Nat} {ad : Nat → Nat} : ∀ f, wX κ tl ad 29 f = .inl (κ.2.1, 201, .inl f) := fun _ => rfl
theorem oX_30 {κ : Kp} {tl : Nat} {ad : Nat → Nat} {f : Nat → Int32} : ∃ fs, wX κ tl ad 30 f = .inr (4, fs) := ⟨_, rfl⟩
theorem gX_30_0 {κ : Kp} {tl : Nat} {ad : Nat → Nat} {f : Nat → Int32} : ∃ fs, wX κ tl ad 30 f = .inr (4, fs) ∧ fs[0]? = some (.ref (ad 31)) := ⟨_, rfl, rfl⟩
theorem gX_30_1 {κ : Kp} {tl : Nat} {ad : Nat → Nat} {f : Nat → Int32} : ∃ fs, wX κ tl ad 30 f = .inr (4, fs) ∧ fs[1]? = some (.ref (ad 32)) := ⟨_, rfl, rfl⟩
theorem gX_30_2 {κ : Kp} {tl : Nat} {ad : Nat → Nat} {f : Nat → Int32} : ∃ fs, wX κ tl ad 30 f = .inr (4, fs) ∧ fs[2]? = some (.ref (ad 33)) := ⟨_, rfl, rfl⟩
theorem gX_30_3 {κ : Kp} {tl : Nat} {ad : Nat → Nat} {f : Nat → Int32} : ∃ fs, wX κ tl ad 30 f = .inr (4, fs) ∧ fs[3]? = some (.ref (ad 34)) := ⟨_, rfl, rfl⟩
theorem gX_30_4 {κ : Kp} {tl : Nat} {ad : Nat → Nat} {f : Nat → Int32} : ∃ fs, wX κ tl ad 30 f = .inr (4, fs) ∧ fs[4]? = some (.ref (ad 35)) := ⟨_, rfl, rfl⟩
theorem gX_30_5 {κ : Kp} {tl : Nat} {ad : Nat → Nat} {f : Nat → Int32} : ∃ fs, wX κ tl ad 30 f = .inr (4, fs) ∧ fs[5]? = some (.ref (ad 36)) := ⟨_, rfl, rfl⟩
theorem gX_30_6 {κ : Kp} {tl : Nat} {ad : Nat → Nat} {f : Nat → Int32} : ∃ fs, wX κ tl ad 30 f = .inr (4, fs) ∧ fs[6]? = some (.ref (ad (f 6).toNatClampNeg)) := ⟨_, rfl, rfl⟩
theorem pX_30_6 {κ : Kp} {tl : Nat} {ad : Nat → Nat} {f : Nat → Int32} {x : Int32} : ∃ fs, wX κ tl ad 30 f = .inr (4, fs) ∧ 6 < fs.length ∧ wX κ tl ad 30 (upd f 6 x) = .inr (4, fs.set 6 (.ref (ad x.toNatClampNeg))) := ⟨_, rfl, Nat.le_of_ble_eq_true rfl, rfl⟩
theorem gX_30_7 {κ : Kp} {tl : Nat} {ad : Nat → Nat} {f : Nat → Int32} : ∃ fs, wX κ tl ad 30 f = .inr (4, fs) ∧ fs[7]? = some (.ref (ad (f 7).toNatClampNeg)) := ⟨_, rfl, rfl⟩
theorem pX_30_7 {κ : Kp} {tl : Nat} {ad : Nat → Nat} {f : Nat → Int32} {x : Int32} : ∃ fs, wX κ tl ad 30 f = .inr (4, fs) ∧ 7 < fs.length ∧ wX κ tl ad 30 (upd f 7 x) = .inr (4, fs.set 7 (.ref (ad x.toNatClampNeg))) := ⟨_, rfl, Nat.le_of_ble_eq_true rfl, rfl⟩
theorem gX_30_8 {κ : Kp} {tl : Nat} {ad : Nat → Nat} {f : Nat → Int32} : ∃ fs, wX κ tl ad 30 f = .inr (4, fs) ∧ fs[8]? = some (.int (f 8)) := ⟨_, rfl, rfl⟩
theorem pX_30_8 {κ : Kp} {tl : Nat} {ad : Nat → Nat} {f : Nat → Int32} {x : Int32} : ∃ fs, wX κ tl ad 30 f = .inr (4, fs) ∧ 8 < fs.length ∧ wX κ tl ad 30 (upd f 8 x) = .inr (4, fs.set 8 (.int x)) := ⟨_, rfl, Nat.le_of_ble_eq_true rfl, rfl⟩
theorem gX_30_9 {κ : Kp} {tl : Nat} {ad : Nat → Nat} {f : Nat → Int32} : ∃ fs, wX κ tl ad 30 f = .inr (4, fs) ∧ fs[9]? = some (.int (f 9)) := ⟨_, rfl, rfl⟩
theorem pX_30_9 {κ : Kp} {tl : Nat} {ad : Nat → Nat} {f : Nat → Int32} {x : Int32} : ∃ fs, wX κ tl ad 30 f = .inr (4, fs) ∧ 9 < fs.length ∧ wX κ tl ad 30 (upd f 9 x) = .inr (4, fs.set 9 (.int x)) := ⟨_, rfl, Nat.le_of_ble_eq_true rfl, rfl⟩
theorem gX_30_10 {κ : Kp} {tl : Nat} {ad : Nat → Nat} {f : Nat → Int32} : ∃ fs, wX κ tl ad 30 f = .inr (4, fs) ∧ fs[10]? = some (.int (f 10)) := ⟨_, rfl, rfl⟩
theorem pX_30_10 {κ : Kp} {tl : Nat} {ad : Nat → Nat} {f : Nat → Int32} {x : Int32} : ∃ fs, wX κ tl ad 30 f = .inr (4, fs) ∧ 10 < fs.length ∧ wX κ tl ad 30 (upd f 10 x) = .inr (4, fs.set 10 (.int x)) := ⟨_, rfl, Nat.le_of_ble_eq_true rfl, rfl⟩
theorem gX_30_11 {κ : Kp} {tl : Nat} {ad : Nat → Nat} {f : Nat → Int32} : ∃ fs, wX κ tl ad 30 f = .inr (4, fs) ∧ fs[11]? = some (.int (f 11)) := ⟨_, rfl, rfl⟩
theorem pX_30_11 {κ : Kp} {tl : Nat} {ad : Nat → Nat} {f : Nat → Int32} {x : Int32} : ∃ fs, wX κ tl ad 30 f = .inr (4, fs) ∧ 11 < fs.length ∧ wX κ tl ad 30 (upd f 11 x) = .inr (4, fs.set 11 (.int x)) := ⟨_, rfl, Nat.le_of_ble_eq_true rfl, rfl⟩
theorem gX_30_12 {κ : Kp} {tl : Nat} {ad : Nat → Nat} {f : Nat → Int32} : ∃ fs, wX κ tl ad 30 f = .inr (4, fs) ∧ fs[12]? = some (.int (f 12)) := ⟨_, rfl, rfl⟩
theorem pX_30_12 {κ : Kp} {tl : Nat} {ad : Nat → Nat} {f : Nat → Int32} {x : Int32} : ∃ fs, wX κ tl ad 30 f = .inr (4, fs) ∧ 12 < fs.length ∧ wX κ tl ad 30 (upd f 12 x) = .inr (4, fs.set 12 (.int x)) := ⟨_, rfl, Nat.le_of_ble_eq_true rfl, rfl⟩
theorem gX_30_13 {κ : Kp} {tl : Nat} {ad : Nat → Nat} {f : Nat → Int32} : ∃ fs, wX κ tl ad 30 f = .inr (4, fs) ∧ fs[13]? = some (.int (f 13)) := ⟨_, rfl, rfl⟩
theorem pX_30_13 {κ : Kp} {tl : Nat} {ad : Nat → Nat} {f : Nat → Int32} {x : Int32} : ∃ fs, wX κ tl ad 30 f = .inr (4, fs) ∧ 13 < fs.length ∧ wX κ tl ad 30 (upd f 13 x) = .inr (4, fs.set 13 (.int x)) := ⟨_, rfl, Nat.le_of_ble_eq_true rfl, rfl⟩
theorem gX_30_14 {κ : Kp} {tl : Nat} {ad : Nat → Nat} {f : Nat → Int32} : ∃ fs, wX κ tl ad 30 f = .inr (4, fs) ∧ fs[14]? = some (.int (f 14)) := ⟨_, rfl, rfl⟩
theorem pX_30_14 {κ : Kp} {tl : Nat} {ad : Nat → Nat} {f : Nat → Int32} {x : Int32} : ∃ fs, wX κ tl ad 30 f = .inr (4, fs) ∧ 14 < fs.length ∧ wX κ tl ad 30 (upd f 14 x) = .inr (4, fs.set 14 (.int x)) := ⟨_, rfl, Nat.le_of_ble_eq_true rfl, rfl⟩
theorem aX_31 {κ : Kp} {tl : Nat} {ad : Nat → Nat} : ∀ f, wX κ tl ad 31 f = .inl (κ.2.1, 8, .inl f) := fun _ => rfl
theorem aX_32 {κ : Kp} {tl : Nat} {ad : Nat → Nat} : ∀ f, wX κ tl ad 32 f = .inl (κ.2.1, 8, .inl f) := fun _ => rfl
theorem aX_33 {κ : Kp} {tl : Nat} {ad : Nat → Nat} : ∀ f, wX κ tl ad 33 f = .inl (κ.2.1, 8, .inl f) := fun _ => rfl
theorem aX_34 {κ : Kp} {tl : Nat} {ad : Nat → Nat} : ∀ f, wX κ tl ad 34 f = .inl (κ.2.1, 8, .inl f) := fun _ => rfl
theorem aX_35 {κ : Kp} {tl : Nat} {ad : Nat → Nat} : ∀ f, wX κ tl ad 35 f = .inl (κ.2.1, 8, .inl f) := fun _ => rfl
theorem aX_36 {κ : Kp} {tl : Nat} {ad : Nat → Nat} : ∀ f, wX κ tl ad 36 f = .inl (κ.2.1, 201, .inl f) := fun _ => rfl
theorem oX_37 {κ : Kp} {tl : Nat} {ad : Nat → Nat} {f : Nat → Int32} : ∃ fs, wX κ tl ad 37 f = .inr (1, fs) := ⟨_, rfl⟩
theorem gX_37_0 {κ : Kp} {tl : Nat} {ad : Nat → Nat} {f : Nat → Int32} : ∃ fs, wX κ tl ad 37 f = .inr (1, fs) ∧ fs[0]? = some (.ref (ad 38)) := ⟨_, rfl, rfl⟩
theorem gX_37_1 {κ : Kp} {tl : Nat} {ad : Nat → Nat} {f : Nat → Int32} : ∃ fs, wX κ tl ad 37 f = .inr (1, fs) ∧ fs[1]? = some (.ref (ad 39)) := ⟨_, rfl, rfl⟩
theorem gX_37_2 {κ : Kp} {tl : Nat} {ad : Nat → Nat} {f : Nat → Int32} : ∃ fs, wX κ tl ad 37 f = .inr (1, fs) ∧ fs[2]? = some (.ref (ad 40)) := ⟨_, rfl, rfl⟩
theorem gX_37_3 {κ : Kp} {tl : Nat} {ad : Nat → Nat} {f : Nat → Int32} : ∃ fs, wX κ tl ad 37 f = .inr (1, fs) ∧ fs[3]? = some (.int (f 3)) := ⟨_, rfl, rfl⟩
theorem pX_37_3 {κ : Kp} {tl : Nat} {ad : Nat → Nat} {f : Nat → Int32} {x : Int32} : ∃ fs, wX κ tl ad 37 f = .inr (1, fs) ∧ 3 < fs.length ∧ wX κ tl ad 37 (upd f 3 x) = .inr (1, fs.set 3 (.int x)) := ⟨_, rfl, Nat.le_of_ble_eq_true rfl, rfl⟩
theorem aX_38 {κ : Kp} {tl : Nat} {ad : Nat → Nat} : ∀ f, wX κ tl ad 38 f = .inl (κ.2.1, 8, .inl f) := fun _ => rfl
theorem aX_39 {κ : Kp} {tl : Nat} {ad : Nat → Nat} : ∀ f, wX κ tl ad 39 f = .inl (κ.2.1, 8, .inl f) := fun _ => rfl
theorem aX_40 {κ : Kp} {tl : Nat} {ad : Nat → Nat} : ∀ f, wX κ tl ad 40 f = .inl (κ.2.1, 8, .inl f) := fun _ => rfl
theorem oX_41 {κ : Kp} {tl : Nat} {ad : Nat → Nat} {f : Nat → Int32} : ∃ fs, wX κ tl ad 41 f = .inr (3, fs) := ⟨_, rfl⟩
theorem gX_41_0 {κ : Kp} {tl : Nat} {ad : Nat → Nat} {f : Nat → Int32} : ∃ fs, wX κ tl ad 41 f = .inr (3, fs) ∧ fs[0]? = some (.ref (ad 42)) := ⟨_, rfl, rfl⟩
theorem gX_41_1 {κ : Kp} {tl : Nat} {ad : Nat → Nat} {f : Nat → Int32} : ∃ fs, wX κ tl ad 41 f = .inr (3, fs) ∧ fs[1]? = some (.ref (ad 43)) := ⟨_, rfl, rfl⟩
theorem gX_41_2 {κ : Kp} {tl : Nat} {ad : Nat → Nat} {f : Nat → Int32} : ∃ fs, wX κ tl ad 41 f = .inr (3, fs) ∧ fs[2]? = some (.int (f 2)) := ⟨_, rfl, rfl⟩
theorem pX_41_2 {κ : Kp} {tl : Nat} {ad : Nat → Nat} {f : Nat → Int32} {x : Int32} : ∃ fs, wX κ tl ad 41 f = .inr (3, fs) ∧ 2 < fs.length ∧ wX κ tl ad 41 (upd f 2 x) = .inr (3, fs.set 2 (.int x)) := ⟨_, rfl, Nat.le_of_ble_eq_true rfl, rfl⟩
theorem aX_42 {κ : Kp} {tl : Nat} {ad : Nat → Nat} : ∀ f, wX κ tl ad 42 f = .inl (κ.2.1, 16, .inl f) := fun _ => rfl
theorem aX_43 {κ : Kp} {tl : Nat} {ad : Nat → Nat} : ∀ f, wX κ tl ad 43 f = .inl (κ.2.1, 16, .inl f) := fun _ => rfl
theorem oX_44 {κ : Kp} {tl : Nat} {ad : Nat → Nat} {f : Nat → Int32} : ∃ fs, wX κ tl ad 44 f = .inr (7, fs) := ⟨_, rfl⟩
theorem gX_44_0 {κ : Kp} {tl : Nat} {ad : Nat → Nat} {f : Nat → Int32} : ∃ fs, wX κ tl ad 44 f = .inr (7, fs) ∧ fs[0]? = some (.ref (ad 45)) := ⟨_, rfl, rfl⟩
theorem gX_44_1 {κ : Kp} {tl : Nat} {ad : Nat → Nat} {f : Nat → Int32} : ∃ fs, wX κ tl ad 44 f = .inr (7, fs) ∧ fs[1]? = some (.ref (ad 46)) := ⟨_, rfl, rfl⟩
theorem gX_44_2 {κ : Kp} {tl : Nat} {ad : Nat → Nat} {f : Nat → Int32} : ∃ fs, wX κ tl ad 44 f = .inr (7, fs) ∧ fs[2]? = some (.int (f 2)) := ⟨_, rfl, rfl⟩
theorem pX_44_2 {κ : Kp} {tl : Nat} {ad : Nat → Nat} {f : Nat → Int32} {x : Int32} : ∃ fs, wX κ tl ad 44 f = .inr (7, fs) ∧ 2 < fs.length ∧ wX κ tl ad 44 (upd f 2 x) = .inr (7, fs.set 2 (.int x)) := ⟨_, rfl, Nat.le_of_ble_eq_true rfl, rfl⟩
theorem aX_45 {κ : Kp} {tl : Nat} {ad : Nat → Nat} : ∀ f, wX κ tl ad 45 f = .inl (κ.2.1, 6, .inl f) := fun _ => rfl
theorem aX_46 {κ : Kp} {tl : Nat} {ad : Nat → Nat} : ∀ f, wX κ tl ad 46 f = .inl (κ.2.1, 6, .inl f) := fun _ => rfl
theorem oX_47 {κ : Kp} {tl : Nat} {ad : Nat → Nat} {f : Nat → Int32} : ∃ fs, wX κ tl ad 47 f = .inr (0, fs) := ⟨_, rfl⟩
theorem gX_47_0 {κ : Kp} {tl : Nat} {ad : Nat → Nat} {f : Nat → Int32} : ∃ fs, wX κ tl ad 47 f = .inr (0, fs) ∧ fs[0]? = some (.ref (ad 48)) := ⟨_, rfl, rfl⟩
theorem gX_47_1 {κ : Kp} {tl : Nat} {ad : Nat → Nat} {f : Nat → Int32} : ∃ fs, wX κ tl ad 47 f = .inr (0, fs) ∧ fs[1]? = some (.ref (ad 49)) := ⟨_, rfl, rfl⟩
theorem aX_48 {κ : Kp} {tl : Nat} {ad : Nat → Nat} : ∀ f, wX κ tl ad 48 f = .inl (κ.2.1, 100, .inl f) := fun _ => rfl
theorem aX_49 {κ : Kp} {tl : Nat} {ad : Nat → Nat} : ∀ f, wX κ tl ad 49 f = .inl (κ.2.1, 100, .inl f) := fun _ => rfl
theorem oX_50 {κ : Kp} {tl : Nat} {ad : Nat → Nat} {f : Nat → Int32} : ∃ fs, wX κ tl ad 50 f = .inr (2, fs) := ⟨_, rfl⟩
theorem gX_50_0 {κ : Kp} {tl : Nat} {ad : Nat → Nat} {f : Nat → Int32} : ∃ fs, wX κ tl ad 50 f = .inr (2, fs) ∧ fs[0]? = some (.ref (ad 51)) := ⟨_, rfl, rfl⟩
theorem aX_51 {κ : Kp} {tl : Nat} {ad : Nat → Nat} : ∀ f, wX κ tl ad 51 f = .inl (κ.2.1, 256, .inl f) := fun _ => rfl
def wM (κ : Kp) : cfT := fun ad k f => match k with
  | 0 => .inr (9, [.ref (ad 1), .int (f 1), .ref (ad 2), .ref (ad 3), .ref (ad 4), .ref (ad 5), .ref (ad 6), .ref (ad 7), .ref (ad 8), .ref (ad 9), .ref (ad 10), .ref (ad 11), .ref (ad 12), .ref (ad 13), .ref (ad 14), .ref (ad 15), .ref (ad 16), .ref (ad 17), .int (f 18), .int (f 19), .ref (ad 18), .int (f 21), .int (f 22), .int (f 23), .int (f 24), .int (f 25), .ref (ad 19), .ref (ad 20), .ref (ad 21), .ref (ad 22), .ref (ad 23), .ref (ad 24), .ref (ad 25), .int (f 33)])
  | 1 => .inl (κ.2.2.2, 200, .inl f)
  | 2 => .inl (κ.2.1, 2, .inl f)
  | 3 => .inl (κ.2.1, 16, .inl f)
  | 4 => .inl (κ.2.1, 16, .inl f)
  | 5 => .inl (κ.2.1, 16, .inl f)
  | 6 => .inl (κ.2.1, 16, .inl f)
  | 7 => .inl (κ.2.1, 2, .inl f)
  | 8 => .inl (κ.2.1, 2, .inl f)
  | 9 => .inl (κ.2.1, 8, .inl f)
  | 10 => .inl (κ.2.1, 8, .inl f)
  | 11 => .inl (κ.2.1, 16, .inl f)
  | 12 => .inl (κ.2.1, 2, .inl f)
  | 13 => .inl (κ.2.1, 12, .inl f)
  | 14 => .inl (κ.2.1, 16, .inl f)
  | 15 => .inl (κ.2.1, 2, .inl f)
  | 16 => .inl (κ.2.1, 16, .inl f)
  | 17 => .inl (κ.2.1, 16, .inl f)
  | 18 => .inl (κ.2.1, 192, .inl f)
  | 19 => .inl (κ.2.1, 8, .inl f)
  | 20 => .inl (κ.2.1, 8, .inl f)
  | 21 => .inl (κ.2.1, 8, .inl f)
  | 22 => .inl (κ.2.1, 256, .inl f)
  | 23 => .inl (κ.2.1, 256, .inl f)
  | 24 => .inl (κ.2.1, 6, .inl f)
  | _ => .inl (κ.2.1, 6, .inl f)
theorem oM_0 {κ : Kp} {ad : Nat → Nat} {f : Nat → Int32} : ∃ fs, wM κ ad 0 f = .inr (9, fs) := ⟨_, rfl⟩
theorem gM_0_0 {κ : Kp} {ad : Nat → Nat} {f : Nat → Int32} : ∃ fs, wM κ ad 0 f = .inr (9, fs) ∧ fs[0]? = some (.ref (ad 1)) := ⟨_, rfl, rfl⟩
theorem gM_0_1 {κ : Kp} {ad : Nat → Nat} {f : Nat → Int32} : ∃ fs, wM κ ad 0 f = .inr (9, fs) ∧ fs[1]? = some (.int (f 1)) := ⟨_, rfl, rfl⟩
theorem pM_0_1 {κ : Kp} {ad : Nat → Nat} {f : Nat → Int32} {x : Int32} : ∃ fs, wM κ ad 0 f = .inr (9, fs) ∧ 1 < fs.length ∧ wM κ ad 0 (upd f 1 x) = .inr (9, fs.set 1 (.int x)) := ⟨_, rfl, Nat.le_of_ble_eq_true rfl, rfl⟩
theorem gM_0_2 {κ : Kp} {ad : Nat → Nat} {f : Nat → Int32} : ∃ fs, wM κ ad 0 f = .inr (9, fs) ∧ fs[2]? = some (.ref (ad 2)) := ⟨_, rfl, rfl⟩
theorem gM_0_3 {κ : Kp} {ad : Nat → Nat} {f : Nat → Int32} : ∃ fs, wM κ ad 0 f = .inr (9, fs) ∧ fs[3]? = some (.ref (ad 3)) := ⟨_, rfl, rfl⟩
theorem gM_0_4 {κ : Kp} {ad : Nat → Nat} {f : Nat → Int32} : ∃ fs, wM κ ad 0 f = .inr (9, fs) ∧ fs[4]? = some (.ref (ad 4)) := ⟨_, rfl, rfl⟩
theorem gM_0_5 {κ : Kp} {ad : Nat → Nat} {f : Nat → Int32} : ∃ fs, wM κ ad 0 f = .inr (9, fs) ∧ fs[5]? = some (.ref (ad 5)) := ⟨_, rfl, rfl⟩
theorem gM_0_6 {κ : Kp} {ad : Nat → Nat} {f : Nat → Int32} : ∃ fs, wM κ ad 0 f = .inr (9, fs) ∧ fs[6]? = some (.ref (ad 6)) := ⟨_, rfl, rfl⟩
theorem gM_0_7 {κ : Kp} {ad : Nat → Nat} {f : Nat → Int32} : ∃ fs, wM κ ad 0 f = .inr (9, fs) ∧ fs[7]? = some (.ref (ad 7)) := ⟨_, rfl, rfl⟩
theorem gM_0_8 {κ : Kp} {ad : Nat → Nat} {f : Nat → Int32} : ∃ fs, wM κ ad 0 f = .inr (9, fs) ∧ fs[8]? = some (.ref (ad 8)) := ⟨_, rfl, rfl⟩
theorem gM_0_9 {κ : Kp} {ad : Nat → Nat} {f : Nat → Int32} : ∃ fs, wM κ ad 0 f = .inr (9, fs) ∧ fs[9]? = some (.ref (ad 9)) := ⟨_, rfl, rfl⟩
theorem gM_0_10 {κ : Kp} {ad : Nat → Nat} {f : Nat → Int32} : ∃ fs, wM κ ad 0 f = .inr (9, fs) ∧ fs[10]? = some (.ref (ad 10)) := ⟨_, rfl, rfl⟩
theorem gM_0_11 {κ : Kp} {ad : Nat → Nat} {f : Nat → Int32} : ∃ fs, wM κ ad 0 f = .inr (9, fs) ∧ fs[11]? = some (.ref (ad 11)) := ⟨_, rfl, rfl⟩
theorem gM_0_12 {κ : Kp} {ad : Nat → Nat} {f : Nat → Int32} : ∃ fs, wM κ ad 0 f = .inr (9, fs) ∧ fs[12]? = some (.ref (ad 12)) := ⟨_, rfl, rfl⟩
theorem gM_0_13 {κ : Kp} {ad : Nat → Nat} {f : Nat → Int32} : ∃ fs, wM κ ad 0 f = .inr (9, fs) ∧ fs[13]? = some (.ref (ad 13)) := ⟨_, rfl, rfl⟩
theorem gM_0_14 {κ : Kp} {ad : Nat → Nat} {f : Nat → Int32} : ∃ fs, wM κ ad 0 f = .inr (9, fs) ∧ fs[14]? = some (.ref (ad 14)) := ⟨_, rfl, rfl⟩
theorem gM_0_15 {κ : Kp} {ad : Nat → Nat} {f : Nat → Int32} : ∃ fs, wM κ ad 0 f = .inr (9, fs) ∧ fs[15]? = some (.ref (ad 15)) := ⟨_, rfl, rfl⟩
theorem gM_0_16 {κ : Kp} {ad : Nat → Nat} {f : Nat → Int32} : ∃ fs, wM κ ad 0 f = .inr (9, fs) ∧ fs[16]? = some (.ref (ad 16)) := ⟨_, rfl, rfl⟩
theorem gM_0_17 {κ : Kp} {ad : Nat → Nat} {f : Nat → Int32} : ∃ fs, wM κ ad 0 f = .inr (9, fs) ∧ fs[17]? = some (.ref (ad 17)) := ⟨_, rfl, rfl⟩
theorem gM_0_18 {κ : Kp} {ad : Nat → Nat} {f : Nat → Int32} : ∃ fs, wM κ ad 0 f = .inr (9, fs) ∧ fs[18]? = some (.int (f 18)) := ⟨_, rfl, rfl⟩
theorem pM_0_18 {κ : Kp} {ad : Nat → Nat} {f : Nat → Int32} {x : Int32} : ∃ fs, wM κ ad 0 f = .inr (9, fs) ∧ 18 < fs.length ∧ wM κ ad 0 (upd f 18 x) = .inr (9, fs.set 18 (.int x)) := ⟨_, rfl, Nat.le_of_ble_eq_true rfl, rfl⟩
theorem gM_0_19 {κ : Kp} {ad : Nat → Nat} {f : Nat → Int32} : ∃ fs, wM κ ad 0 f = .inr (9, fs) ∧ fs[19]? = some (.int (f 19)) := ⟨_, rfl, rfl⟩
theorem pM_0_19 {κ : Kp} {ad : Nat → Nat} {f : Nat → Int32} {x : Int32} : ∃ fs, wM κ ad 0 f = .inr (9, fs) ∧ 19 < fs.length ∧ wM κ ad 0 (upd f 19 x) = .inr (9, fs.set 19 (.int x)) := ⟨_, rfl, Nat.le_of_ble_eq_true rfl, rfl⟩
theorem gM_0_20 {κ : Kp} {ad : Nat → Nat} {f : Nat → Int32} : ∃ fs, wM κ ad 0 f = .inr (9, fs) ∧ fs[20]? = some (.ref (ad 18)) := ⟨_, rfl, rfl⟩
theorem gM_0_21 {κ : Kp} {ad : Nat → Nat} {f : Nat → Int32} : ∃ fs, wM κ ad 0 f = .inr (9, fs) ∧ fs[21]? = some (.int (f 21)) := ⟨_, rfl, rfl⟩
theorem pM_0_21 {κ : Kp} {ad : Nat → Nat} {f : Nat → Int32} {x : Int32} : ∃ fs, wM κ ad 0 f = .inr (9, fs) ∧ 21 < fs.length ∧ wM κ ad 0 (upd f 21 x) = .inr (9, fs.set 21 (.int x)) := ⟨_, rfl, Nat.le_of_ble_eq_true rfl, rfl⟩
theorem gM_0_22 {κ : Kp} {ad : Nat → Nat} {f : Nat → Int32} : ∃ fs, wM κ ad 0 f = .inr (9, fs) ∧ fs[22]? = some (.int (f 22)) := ⟨_, rfl, rfl⟩
theorem pM_0_22 {κ : Kp} {ad : Nat → Nat} {f : Nat → Int32} {x : Int32} : ∃ fs, wM κ ad 0 f = .inr (9, fs) ∧ 22 < fs.length ∧ wM κ ad 0 (upd f 22 x) = .inr (9, fs.set 22 (.int x)) := ⟨_, rfl, Nat.le_of_ble_eq_true rfl, rfl⟩
theorem gM_0_23 {κ : Kp} {ad : Nat → Nat} {f : Nat → Int32} : ∃ fs, wM κ ad 0 f = .inr (9, fs) ∧ fs[23]? = some (.int (f 23)) := ⟨_, rfl, rfl⟩
theorem pM_0_23 {κ : Kp} {ad : Nat → Nat} {f : Nat → Int32} {x : Int32} : ∃ fs, wM κ ad 0 f = .inr (9, fs) ∧ 23 < fs.length ∧ wM κ ad 0 (upd f 23 x) = .inr (9, fs.set 23 (.int x)) := ⟨_, rfl, Nat.le_of_ble_eq_true rfl, rfl⟩
theorem gM_0_24 {κ : Kp} {ad : Nat → Nat} {f : Nat → Int32} : ∃ fs, wM κ ad 0 f = .inr (9, fs) ∧ fs[24]? = some (.int (f 24)) := ⟨_, rfl, rfl⟩
theorem pM_0_24 {κ : Kp} {ad : Nat → Nat} {f : Nat → Int32} {x : Int32} : ∃ fs, wM κ ad 0 f = .inr (9, fs) ∧ 24 < fs.length ∧ wM κ ad 0 (upd f 24 x) = .inr (9, fs.set 24 (.int x)) := ⟨_, rfl, Nat.le_of_ble_eq_true rfl, rfl⟩
theorem gM_0_25 {κ : Kp} {ad : Nat → Nat} {f : Nat → Int32} : ∃ fs, wM κ ad 0 f = .inr (9, fs) ∧ fs[25]? = some (.int (f 25)) := ⟨_, rfl, rfl⟩
theorem pM_0_25 {κ : Kp} {ad : Nat → Nat} {f : Nat → Int32} {x : Int32} : ∃ fs, wM κ ad 0 f = .inr (9, fs) ∧ 25 < fs.length ∧ wM κ ad 0 (upd f 25 x) = .inr (9, fs.set 25 (.int x)) := ⟨_, rfl, Nat.le_of_ble_eq_true rfl, rfl⟩
theorem gM_0_26 {κ : Kp} {ad : Nat → Nat} {f : Nat → Int32} : ∃ fs, wM κ ad 0 f = .inr (9, fs) ∧ fs[26]? = some (.ref (ad 19)) := ⟨_, rfl, rfl⟩
theorem gM_0_27 {κ : Kp} {ad : Nat → Nat} {f : Nat → Int32} : ∃ fs, wM κ ad 0 f = .inr (9, fs) ∧ fs[27]? = some (.ref (ad 20)) := ⟨_, rfl, rfl⟩
theorem gM_0_28 {κ : Kp} {ad : Nat → Nat} {f : Nat → Int32} : ∃ fs, wM κ ad 0 f = .inr (9, fs) ∧ fs[28]? = some (.ref (ad 21)) := ⟨_, rfl, rfl⟩
theorem gM_0_29 {κ : Kp} {ad : Nat → Nat} {f : Nat → Int32} : ∃ fs, wM κ ad 0 f = .inr (9, fs) ∧ fs[29]? = some (.ref (ad 22)) := ⟨_, rfl, rfl⟩
theorem gM_0_30 {κ : Kp} {ad : Nat → Nat} {f : Nat → Int32} : ∃ fs, wM κ ad 0 f = .inr (9, fs) ∧ fs[30]? = some (.ref (ad 23)) := ⟨_, rfl, rfl⟩
theorem gM_0_31 {κ : Kp} {ad : Nat → Nat} {f : Nat → Int32} : ∃ fs, wM κ ad 0 f = .inr (9, fs) ∧ fs[31]? = some (.ref (ad 24)) := ⟨_, rfl, rfl⟩
theorem gM_0_32 {κ : Kp} {ad : Nat → Nat} {f : Nat → Int32} : ∃ fs, wM κ ad 0 f = .inr (9, fs) ∧ fs[32]? = some (.ref (ad 25)) := ⟨_, rfl, rfl⟩
theorem gM_0_33 {κ : Kp} {ad : Nat → Nat} {f : Nat → Int32} : ∃ fs, wM κ ad 0 f = .inr (9, fs) ∧ fs[33]? = some (.int (f 33)) := ⟨_, rfl, rfl⟩
theorem pM_0_33 {κ : Kp} {ad : Nat → Nat} {f : Nat → Int32} {x : Int32} : ∃ fs, wM κ ad 0 f = .inr (9, fs) ∧ 33 < fs.length ∧ wM κ ad 0 (upd f 33 x) = .inr (9, fs.set 33 (.int x)) := ⟨_, rfl, Nat.le_of_ble_eq_true rfl, rfl⟩
theorem aM_1 {κ : Kp} {ad : Nat → Nat} : ∀ f, wM κ ad 1 f = .inl (κ.2.2.2, 200, .inl f) := fun _ => rfl
theorem aM_2 {κ : Kp} {ad : Nat → Nat} : ∀ f, wM κ ad 2 f = .inl (κ.2.1, 2, .inl f) := fun _ => rfl
theorem aM_3 {κ : Kp} {ad : Nat → Nat} : ∀ f, wM κ ad 3 f = .inl (κ.2.1, 16, .inl f) := fun _ => rfl
theorem aM_4 {κ : Kp} {ad : Nat → Nat} : ∀ f, wM κ ad 4 f = .inl (κ.2.1, 16, .inl f) := fun _ => rfl
theorem aM_5 {κ : Kp} {ad : Nat → Nat} : ∀ f, wM κ ad 5 f = .inl (κ.2.1, 16, .inl f) := fun _ => rfl
theorem aM_6 {κ : Kp} {ad : Nat → Nat} : ∀ f, wM κ ad 6 f = .inl (κ.2.1, 16, .inl f) := fun _ => rfl
theorem aM_7 {κ : Kp} {ad : Nat → Nat} : ∀ f, wM κ ad 7 f = .inl (κ.2.1, 2, .inl f) := fun _ => rfl
theorem aM_8 {κ : Kp} {ad : Nat → Nat} : ∀ f, wM κ ad 8 f = .inl (κ.2.1, 2, .inl f) := fun _ => rfl
theorem aM_9 {κ : Kp} {ad : Nat → Nat} : ∀ f, wM κ ad 9 f = .inl (κ.2.1, 8, .inl f) := fun _ => rfl
theorem aM_10 {κ : Kp} {ad : Nat → Nat} : ∀ f, wM κ ad 10 f = .inl (κ.2.1, 8, .inl f) := fun _ => rfl
theorem aM_11 {κ : Kp} {ad : Nat → Nat} : ∀ f, wM κ ad 11 f = .inl (κ.2.1, 16, .inl f) := fun _ => rfl
theorem aM_12 {κ : Kp} {ad : Nat → Nat} : ∀ f, wM κ ad 12 f = .inl (κ.2.1, 2, .inl f) := fun _ => rfl
theorem aM_13 {κ : Kp} {ad : Nat → Nat} : ∀ f, wM κ ad 13 f = .inl (κ.2.1, 12, .inl f) := fun _ => rfl
theorem aM_14 {κ : Kp} {ad : Nat → Nat} : ∀ f, wM κ ad 14 f = .inl (κ.2.1, 16, .inl f) := fun _ => rfl
theorem aM_15 {κ : Kp} {ad : Nat → Nat} : ∀ f, wM κ ad 15 f = .inl (κ.2.1, 2, .inl f) := fun _ => rfl
theorem aM_16 {κ : Kp} {ad : Nat → Nat} : ∀ f, wM κ ad 16 f = .inl (κ.2.1, 16, .inl f) := fun _ => rfl
theorem aM_17 {κ : Kp} {ad : Nat → Nat} : ∀ f, wM κ ad 17 f = .inl (κ.2.1, 16, .inl f) := fun _ => rfl
theorem aM_18 {κ : Kp} {ad : Nat → Nat} : ∀ f, wM κ ad 18 f = .inl (κ.2.1, 192, .inl f) := fun _ => rfl
theorem aM_19 {κ : Kp} {ad : Nat → Nat} : ∀ f, wM κ ad 19 f = .inl (κ.2.1, 8, .inl f) := fun _ => rfl
theorem aM_20 {κ : Kp} {ad : Nat → Nat} : ∀ f, wM κ ad 20 f = .inl (κ.2.1, 8, .inl f) := fun _ => rfl
theorem aM_21 {κ : Kp} {ad : Nat → Nat} : ∀ f, wM κ ad 21 f = .inl (κ.2.1, 8, .inl f) := fun _ => rfl
theorem aM_22 {κ : Kp} {ad : Nat → Nat} : ∀ f, wM κ ad 22 f = .inl (κ.2.1, 256, .inl f) := fun _ => rfl
theorem aM_23 {κ : Kp} {ad : Nat → Nat} : ∀ f, wM κ ad 23 f = .inl (κ.2.1, 256, .inl f) := fun _ => rfl
theorem aM_24 {κ : Kp} {ad : Nat → Nat} : ∀ f, wM κ ad 24 f = .inl (κ.2.1, 6, .inl f) := fun _ => rfl
theorem aM_25 {κ : Kp} {ad : Nat → Nat} : ∀ f, wM κ ad 25 f = .inl (κ.2.1, 6, .inl f) := fun _ => rfl
theorem inT_X0 : ∀ w ∈ u_ws RX0 TX0 2, w ∈ TB := by
  show ∀ w ∈ [Cond.laysFinal RX0 "CrossedFirst$Bridge" "minutes" "[I", Cond.laysFinal RX0 "CrossedFirst$Bridge" "firsts" "[I"], w ∈ TB
  exact List.forall_mem_cons.mpr ⟨tb2 143 rfl rfl, List.forall_mem_cons.mpr ⟨tb2 145 rfl rfl, fun _ h => absurd h List.not_mem_nil⟩⟩
theorem inT_X1 : ∀ w ∈ u_ws RX1 TX1 4, w ∈ TB := by
  show ∀ w ∈ [Cond.laysFinal RX1 "CrossedFirst$Changes" "changed" "[I", Cond.laysFinal RX1 "CrossedFirst$Changes" "startsWere" "[I", Cond.laysFinal RX1 "CrossedFirst$Changes" "carriersWere" "[I", Cond.lays RX1 "CrossedFirst$Changes" "size" "I"], w ∈ TB
  exact List.forall_mem_cons.mpr ⟨tb2 92 rfl rfl, List.forall_mem_cons.mpr ⟨tb2 94 rfl rfl, List.forall_mem_cons.mpr ⟨tb2 96 rfl rfl, List.forall_mem_cons.mpr ⟨tb2 98 rfl rfl, fun _ h => absurd h List.not_mem_nil⟩⟩⟩⟩
theorem inT_X2 : ∀ w ∈ u_ws RX2 TX2 1, w ∈ TB := by
  show ∀ w ∈ [Cond.laysFinal RX2 "CrossedFirst$Giving" "least" "[I"], w ∈ TB
  exact List.forall_mem_cons.mpr ⟨tb2 156 rfl rfl, fun _ h => absurd h List.not_mem_nil⟩
theorem inT_X3 : ∀ w ∈ u_ws RX3 TX3 3, w ∈ TB := by
  show ∀ w ∈ [Cond.laysFinal RX3 "CrossedFirst$Kept" "starts" "[I", Cond.laysFinal RX3 "CrossedFirst$Kept" "carriers" "[I", Cond.lays RX3 "CrossedFirst$Kept" "size" "I"], w ∈ TB
  exact List.forall_mem_cons.mpr ⟨tb2 111 rfl rfl, List.forall_mem_cons.mpr ⟨tb2 113 rfl rfl, List.forall_mem_cons.mpr ⟨tb2 115 rfl rfl, fun _ h => absurd h List.not_mem_nil⟩⟩⟩
theorem inT_X4 : ∀ w ∈ u_ws RX4 TX4 15, w ∈ TB := by
  show ∀ w ∈ [Cond.laysFinal RX4 "CrossedFirst$Race" "starts" "[I", Cond.laysFinal RX4 "CrossedFirst$Race" "carriers" "[I", Cond.laysFinal RX4 "CrossedFirst$Race" "landings" "[I", Cond.laysFinal RX4 "CrossedFirst$Race" "ranks" "[I", Cond.laysFinal RX4 "CrossedFirst$Race" "byRank" "[I", Cond.laysFinal RX4 "CrossedFirst$Race" "drawn" "[I", Cond.lays RX4 "CrossedFirst$Race" "over" "LCrossedFirst$River;", Cond.lays RX4 "CrossedFirst$Race" "flow" "[I", Cond.lays RX4 "CrossedFirst$Race" "width" "I", Cond.lays RX4 "CrossedFirst$Race" "floods" "I", Cond.lays RX4 "CrossedFirst$Race" "helpFrom" "I", Cond.lays RX4 "CrossedFirst$Race" "pull" "I", Cond.lays RX4 "CrossedFirst$Race" "kind" "I", Cond.lays RX4 "CrossedFirst$Race" "from" "I", Cond.lays RX4 "CrossedFirst$Race" "far" "I"], w ∈ TB
  exact List.forall_mem_cons.mpr ⟨tb2 49 rfl rfl, List.forall_mem_cons.mpr ⟨tb2 51 rfl rfl, List.forall_mem_cons.mpr ⟨tb2 53 rfl rfl, List.forall_mem_cons.mpr ⟨tb2 55 rfl rfl, List.forall_mem_cons.mpr ⟨tb2 57 rfl rfl, List.forall_mem_cons.mpr ⟨tb2 59 rfl rfl, List.forall_mem_cons.mpr ⟨tb2 61 rfl rfl, List.forall_mem_cons.mpr ⟨tb2 63 rfl rfl, List.forall_mem_cons.mpr ⟨tb2 65 rfl rfl, List.forall_mem_cons.mpr ⟨tb2 67 rfl rfl, List.forall_mem_cons.mpr ⟨tb2 69 rfl rfl, List.forall_mem_cons.mpr ⟨tb2 71 rfl rfl, List.forall_mem_cons.mpr ⟨tb2 73 rfl rfl, List.forall_mem_cons.mpr ⟨tb2 75 rfl rfl, List.forall_mem_cons.mpr ⟨tb2 77 rfl rfl, fun _ h => absurd h List.not_mem_nil⟩⟩⟩⟩⟩⟩⟩⟩⟩⟩⟩⟩⟩⟩⟩
theorem inT_X5 : ∀ w ∈ u_ws RX5 TX5 2, w ∈ TB := by
  show ∀ w ∈ [Cond.laysFinal RX5 "CrossedFirst$Reader" "numbers" "[I", Cond.lays RX5 "CrossedFirst$Reader" "behind" "I"], w ∈ TB
  exact List.forall_mem_cons.mpr ⟨tb1 34 rfl rfl, List.forall_mem_cons.mpr ⟨tb1 36 rfl rfl, fun _ h => absurd h List.not_mem_nil⟩⟩
theorem inT_X6 : ∀ w ∈ u_ws RX6 TX6 18, w ∈ TB := by
  show ∀ w ∈ [Cond.laysFinal RX6 "CrossedFirst$River" "strokes" "[I", Cond.laysFinal RX6 "CrossedFirst$River" "weights" "[I", Cond.laysFinal RX6 "CrossedFirst$River" "kinds" "[I", Cond.laysFinal RX6 "CrossedFirst$River" "starts" "[I", Cond.laysFinal RX6 "CrossedFirst$River" "carriers" "[I", Cond.laysFinal RX6 "CrossedFirst$River" "rafts" "[I", Cond.laysFinal RX6 "CrossedFirst$River" "voices" "[I", Cond.laysFinal RX6 "CrossedFirst$River" "wants" "[I", Cond.laysFinal RX6 "CrossedFirst$River" "harvests" "[I", Cond.laysFinal RX6 "CrossedFirst$River" "currentsFrom" "[I", Cond.laysFinal RX6 "CrossedFirst$River" "currentsTake" "[I", Cond.laysFinal RX6 "CrossedFirst$River" "flow" "[I", Cond.lays RX6 "CrossedFirst$River" "beasts" "I", Cond.lays RX6 "CrossedFirst$River" "width" "I", Cond.lays RX6 "CrossedFirst$River" "currents" "I", Cond.lays RX6 "CrossedFirst$River" "raftsTold" "I", Cond.lays RX6 "CrossedFirst$River" "voicesTold" "I", Cond.lays RX6 "CrossedFirst$River" "sharedByRafts" "Z"], w ∈ TB
  exact List.forall_mem_cons.mpr ⟨tb1 100 rfl rfl, List.forall_mem_cons.mpr ⟨tb1 102 rfl rfl, List.forall_mem_cons.mpr ⟨tb1 104 rfl rfl, List.forall_mem_cons.mpr ⟨tb1 106 rfl rfl, List.forall_mem_cons.mpr ⟨tb1 108 rfl rfl, List.forall_mem_cons.mpr ⟨tb1 110 rfl rfl, List.forall_mem_cons.mpr ⟨tb1 112 rfl rfl, List.forall_mem_cons.mpr ⟨tb1 114 rfl rfl, List.forall_mem_cons.mpr ⟨tb1 116 rfl rfl, List.forall_mem_cons.mpr ⟨tb1 118 rfl rfl, List.forall_mem_cons.mpr ⟨tb1 120 rfl rfl, List.forall_mem_cons.mpr ⟨tb1 122 rfl rfl, List.forall_mem_cons.mpr ⟨tb1 124 rfl rfl, List.forall_mem_cons.mpr ⟨tb1 126 rfl rfl, List.forall_mem_cons.mpr ⟨tb1 128 rfl rfl, List.forall_mem_cons.mpr ⟨tb1 130 rfl rfl, List.forall_mem_cons.mpr ⟨tb1 132 rfl rfl, List.forall_mem_cons.mpr ⟨tb1 134 rfl rfl, fun _ h => absurd h List.not_mem_nil⟩⟩⟩⟩⟩⟩⟩⟩⟩⟩⟩⟩⟩⟩⟩⟩⟩⟩
theorem inT_X7 : ∀ w ∈ u_ws RX7 TX7 3, w ∈ TB := by
  show ∀ w ∈ [Cond.laysFinal RX7 "CrossedFirst$Sightings" "sighted" "[I", Cond.laysFinal RX7 "CrossedFirst$Sightings" "ranks" "[I", Cond.lays RX7 "CrossedFirst$Sightings" "size" "I"], w ∈ TB
  exact List.forall_mem_cons.mpr ⟨tb2 128 rfl rfl, List.forall_mem_cons.mpr ⟨tb2 130 rfl rfl, List.forall_mem_cons.mpr ⟨tb2 132 rfl rfl, fun _ h => absurd h List.not_mem_nil⟩⟩⟩
theorem inT_X8 : ∀ w ∈ u_ws RX8 TX8 11, w ∈ TB := by
  show ∀ w ∈ [Cond.laysFinal RX8 "CrossedFirst" "letters" "[C", Cond.lays RX8 "CrossedFirst" "length" "I", Cond.laysFinal RX8 "CrossedFirst" "reader" "LCrossedFirst$Reader;", Cond.lays RX8 "CrossedFirst" "laid" "LCrossedFirst$River;", Cond.lays RX8 "CrossedFirst" "spare" "LCrossedFirst$River;", Cond.laysFinal RX8 "CrossedFirst" "race" "LCrossedFirst$Race;", Cond.laysFinal RX8 "CrossedFirst" "changes" "LCrossedFirst$Changes;", Cond.laysFinal RX8 "CrossedFirst" "kept" "LCrossedFirst$Kept;", Cond.laysFinal RX8 "CrossedFirst" "sightings" "LCrossedFirst$Sightings;", Cond.laysFinal RX8 "CrossedFirst" "spans" "LCrossedFirst$Bridge;", Cond.laysFinal RX8 "CrossedFirst" "giving" "LCrossedFirst$Giving;"], w ∈ TB
  exact List.forall_mem_cons.mpr ⟨tb2 170 rfl rfl, List.forall_mem_cons.mpr ⟨tb2 172 rfl rfl, List.forall_mem_cons.mpr ⟨tb2 174 rfl rfl, List.forall_mem_cons.mpr ⟨tb2 176 rfl rfl, List.forall_mem_cons.mpr ⟨tb2 178 rfl rfl, List.forall_mem_cons.mpr ⟨tb2 180 rfl rfl, List.forall_mem_cons.mpr ⟨tb2 182 rfl rfl, List.forall_mem_cons.mpr ⟨tb2 184 rfl rfl, List.forall_mem_cons.mpr ⟨tb2 186 rfl rfl, List.forall_mem_cons.mpr ⟨tb2 188 rfl rfl, List.forall_mem_cons.mpr ⟨tb2 190 rfl rfl, fun _ h => absurd h List.not_mem_nil⟩⟩⟩⟩⟩⟩⟩⟩⟩⟩⟩
theorem inT_X9 : ∀ w ∈ u_ws RX9 TX9 34, w ∈ TB := by
  show ∀ w ∈ [Cond.laysFinal RX9 "CrossedFirstModel" "text" "[B", Cond.lays RX9 "CrossedFirstModel" "typed" "I", Cond.laysFinal RX9 "CrossedFirstModel" "many" "[I", Cond.laysFinal RX9 "CrossedFirstModel" "strokes" "[I", Cond.laysFinal RX9 "CrossedFirstModel" "weight" "[I", Cond.laysFinal RX9 "CrossedFirstModel" "kind" "[I", Cond.laysFinal RX9 "CrossedFirstModel" "begins" "[I", Cond.laysFinal RX9 "CrossedFirstModel" "wide" "[I", Cond.laysFinal RX9 "CrossedFirstModel" "currents" "[I", Cond.laysFinal RX9 "CrossedFirstModel" "currentFrom" "[I", Cond.laysFinal RX9 "CrossedFirstModel" "currentTakes" "[I", Cond.laysFinal RX9 "CrossedFirstModel" "mount" "[I", Cond.laysFinal RX9 "CrossedFirstModel" "rafts" "[I", Cond.laysFinal RX9 "CrossedFirstModel" "raft" "[I", Cond.laysFinal RX9 "CrossedFirstModel" "spoken" "[I", Cond.laysFinal RX9 "CrossedFirstModel" "speakers" "[I", Cond.laysFinal RX9 "CrossedFirstModel" "wants" "[I", Cond.laysFinal RX9 "CrossedFirstModel" "yields" "[I", Cond.lays RX9 "CrossedFirstModel" "at" "I", Cond.lays RX9 "CrossedFirstModel" "isSo" "Z", Cond.laysFinal RX9 "CrossedFirstModel" "now" "[I", Cond.lays RX9 "CrossedFirstModel" "deeds" "I", Cond.lays RX9 "CrossedFirstModel" "kept" "I", Cond.lays RX9 "CrossedFirstModel" "span" "I", Cond.lays RX9 "CrossedFirstModel" "floods" "I", Cond.lays RX9 "CrossedFirstModel" "riverBy" "I", Cond.laysFinal RX9 "CrossedFirstModel" "far" "[I", Cond.laysFinal RX9 "CrossedFirstModel" "landed" "[I", Cond.laysFinal RX9 "CrossedFirstModel" "ranked" "[I", Cond.laysFinal RX9 "CrossedFirstModel" "pairs" "[I", Cond.laysFinal RX9 "CrossedFirstModel" "offs" "[I", Cond.laysFinal RX9 "CrossedFirstModel" "seenOf" "[I", Cond.laysFinal RX9 "CrossedFirstModel" "seenRank" "[I", Cond.lays RX9 "CrossedFirstModel" "seenMany" "I"], w ∈ TB
  exact List.forall_mem_cons.mpr ⟨tb4 98 rfl rfl, List.forall_mem_cons.mpr ⟨tb4 100 rfl rfl, List.forall_mem_cons.mpr ⟨tb4 102 rfl rfl, List.forall_mem_cons.mpr ⟨tb4 104 rfl rfl, List.forall_mem_cons.mpr ⟨tb4 106 rfl rfl, List.forall_mem_cons.mpr ⟨tb4 108 rfl rfl, List.forall_mem_cons.mpr ⟨tb4 110 rfl rfl, List.forall_mem_cons.mpr ⟨tb4 112 rfl rfl, List.forall_mem_cons.mpr ⟨tb4 114 rfl rfl, List.forall_mem_cons.mpr ⟨tb4 116 rfl rfl, List.forall_mem_cons.mpr ⟨tb4 118 rfl rfl, List.forall_mem_cons.mpr ⟨tb4 120 rfl rfl, List.forall_mem_cons.mpr ⟨tb4 122 rfl rfl, List.forall_mem_cons.mpr ⟨tb4 124 rfl rfl, List.forall_mem_cons.mpr ⟨tb4 126 rfl rfl, List.forall_mem_cons.mpr ⟨tb4 128 rfl rfl, List.forall_mem_cons.mpr ⟨tb4 130 rfl rfl, List.forall_mem_cons.mpr ⟨tb4 132 rfl rfl, List.forall_mem_cons.mpr ⟨tb4 134 rfl rfl, List.forall_mem_cons.mpr ⟨tb4 136 rfl rfl, List.forall_mem_cons.mpr ⟨tb4 138 rfl rfl, List.forall_mem_cons.mpr ⟨tb4 140 rfl rfl, List.forall_mem_cons.mpr ⟨tb4 142 rfl rfl, List.forall_mem_cons.mpr ⟨tb4 144 rfl rfl, List.forall_mem_cons.mpr ⟨tb4 146 rfl rfl, List.forall_mem_cons.mpr ⟨tb4 148 rfl rfl, List.forall_mem_cons.mpr ⟨tb4 150 rfl rfl, List.forall_mem_cons.mpr ⟨tb4 152 rfl rfl, List.forall_mem_cons.mpr ⟨tb4 154 rfl rfl, List.forall_mem_cons.mpr ⟨tb4 156 rfl rfl, List.forall_mem_cons.mpr ⟨tb4 158 rfl rfl, List.forall_mem_cons.mpr ⟨tb4 160 rfl rfl, List.forall_mem_cons.mpr ⟨tb4 162 rfl rfl, List.forall_mem_cons.mpr ⟨tb4 164 rfl rfl, fun _ h => absurd h List.not_mem_nil⟩⟩⟩⟩⟩⟩⟩⟩⟩⟩⟩⟩⟩⟩⟩⟩⟩⟩⟩⟩⟩⟩⟩⟩⟩⟩⟩⟩⟩⟩⟩⟩⟩⟩
theorem fl_X8_9 : FL RX8 9 RX8 TX8 11 0 8 := ⟨tb2 159 rfl rfl, Nat.le_of_ble_eq_true rfl, rfl, inT_X8⟩
theorem fl_X8_13 : FL RX8 13 RX8 TX8 11 1 8 := ⟨tb2 160 rfl rfl, Nat.le_of_ble_eq_true rfl, rfl, inT_X8⟩
theorem fp_X8_13 : FP RX8 13 RX8 TX8 11 1 8 tyX8 := ⟨fl_X8_13, tyX8_ok, nmX8, rfl⟩
theorem fl_X8_20 : FL RX8 20 RX8 TX8 11 2 8 := ⟨tb2 161 rfl rfl, Nat.le_of_ble_eq_true rfl, rfl, inT_X8⟩
theorem fl_X8_28 : FL RX8 28 RX8 TX8 11 3 8 := ⟨tb2 162 rfl rfl, Nat.le_of_ble_eq_true rfl, rfl, inT_X8⟩
theorem fp_X8_28 : FP RX8 28 RX8 TX8 11 3 8 tyX8 := ⟨fl_X8_28, tyX8_ok, nmX8, rfl⟩
theorem fl_X8_35 : FL RX8 35 RX8 TX8 11 4 8 := ⟨tb2 163 rfl rfl, Nat.le_of_ble_eq_true rfl, rfl, inT_X8⟩
theorem fp_X8_35 : FP RX8 35 RX8 TX8 11 4 8 tyX8 := ⟨fl_X8_35, tyX8_ok, nmX8, rfl⟩
theorem fl_X8_43 : FL RX8 43 RX8 TX8 11 5 8 := ⟨tb2 164 rfl rfl, Nat.le_of_ble_eq_true rfl, rfl, inT_X8⟩
theorem fl_X8_50 : FL RX8 50 RX8 TX8 11 6 8 := ⟨tb2 165 rfl rfl, Nat.le_of_ble_eq_true rfl, rfl, inT_X8⟩
theorem fl_X8_57 : FL RX8 57 RX8 TX8 11 7 8 := ⟨tb2 166 rfl rfl, Nat.le_of_ble_eq_true rfl, rfl, inT_X8⟩
theorem fl_X8_64 : FL RX8 64 RX8 TX8 11 8 8 := ⟨tb2 167 rfl rfl, Nat.le_of_ble_eq_true rfl, rfl, inT_X8⟩
theorem fl_X8_71 : FL RX8 71 RX8 TX8 11 9 8 := ⟨tb2 168 rfl rfl, Nat.le_of_ble_eq_true rfl, rfl, inT_X8⟩
theorem fl_X8_78 : FL RX8 78 RX8 TX8 11 10 8 := ⟨tb2 169 rfl rfl, Nat.le_of_ble_eq_true rfl, rfl, inT_X8⟩
theorem fl_X8_102 : FL RX8 102 RX6 TX6 18 12 6 := ⟨tb1 90 rfl rfl, Nat.le_of_ble_eq_true rfl, rfl, inT_X6⟩
theorem fp_X8_102 : FP RX8 102 RX6 TX6 18 12 6 tyX6 := ⟨fl_X8_102, tyX6_ok, nmX6, rfl⟩
theorem fl_X8_109 : FL RX8 109 RX6 TX6 18 0 6 := ⟨tb1 51 rfl rfl, Nat.le_of_ble_eq_true rfl, rfl, inT_X6⟩
theorem fl_X8_113 : FL RX8 113 RX6 TX6 18 1 6 := ⟨tb1 54 rfl rfl, Nat.le_of_ble_eq_true rfl, rfl, inT_X6⟩
theorem fl_X8_116 : FL RX8 116 RX6 TX6 18 2 6 := ⟨tb1 57 rfl rfl, Nat.le_of_ble_eq_true rfl, rfl, inT_X6⟩
theorem fl_X8_119 : FL RX8 119 RX6 TX6 18 3 6 := ⟨tb1 63 rfl rfl, Nat.le_of_ble_eq_true rfl, rfl, inT_X6⟩
theorem fl_X8_122 : FL RX8 122 RX6 TX6 18 4 6 := ⟨tb1 68 rfl rfl, Nat.le_of_ble_eq_true rfl, rfl, inT_X6⟩
theorem fl_X8_125 : FL RX8 125 RX6 TX6 18 5 6 := ⟨tb1 71 rfl rfl, Nat.le_of_ble_eq_true rfl, rfl, inT_X6⟩
theorem fl_X8_128 : FL RX8 128 RX6 TX6 18 6 6 := ⟨tb1 74 rfl rfl, Nat.le_of_ble_eq_true rfl, rfl, inT_X6⟩
theorem fl_X8_131 : FL RX8 131 RX6 TX6 18 11 6 := ⟨tb1 85 rfl rfl, Nat.le_of_ble_eq_true rfl, rfl, inT_X6⟩
theorem fl_X8_145 : FL RX8 145 RX4 TX4 15 14 4 := ⟨tb2 47 rfl rfl, Nat.le_of_ble_eq_true rfl, rfl, inT_X4⟩
theorem fp_X8_145 : FP RX8 145 RX4 TX4 15 14 4 tyX4 := ⟨fl_X8_145, tyX4_ok, nmX4, rfl⟩
theorem fl_X8_148 : FL RX8 148 RX6 TX6 18 13 6 := ⟨tb1 93 rfl rfl, Nat.le_of_ble_eq_true rfl, rfl, inT_X6⟩
theorem fp_X8_148 : FP RX8 148 RX6 TX6 18 13 6 tyX6 := ⟨fl_X8_148, tyX6_ok, nmX6, rfl⟩
theorem fl_X8_160 : FL RX8 160 RX4 TX4 15 3 4 := ⟨tb2 33 rfl rfl, Nat.le_of_ble_eq_true rfl, rfl, inT_X4⟩
theorem fl_X8_163 : FL RX8 163 RX4 TX4 15 4 4 := ⟨tb2 35 rfl rfl, Nat.le_of_ble_eq_true rfl, rfl, inT_X4⟩
theorem fl_X8_180 : FL RX8 180 RX1 TX1 4 3 1 := ⟨tb2 91 rfl rfl, Nat.le_of_ble_eq_true rfl, rfl, inT_X1⟩
theorem fp_X8_180 : FP RX8 180 RX1 TX1 4 3 1 tyX1 := ⟨fl_X8_180, tyX1_ok, nmX1, rfl⟩
theorem fl_X8_183 : FL RX8 183 RX4 TX4 15 0 4 := ⟨tb2 26 rfl rfl, Nat.le_of_ble_eq_true rfl, rfl, inT_X4⟩
theorem fl_X8_214 : FL RX8 214 RX2 TX2 1 0 2 := ⟨tb2 155 rfl rfl, Nat.le_of_ble_eq_true rfl, rfl, inT_X2⟩
theorem fl_X8_221 : FL RX8 221 RX6 TX6 18 8 6 := ⟨tb1 80 rfl rfl, Nat.le_of_ble_eq_true rfl, rfl, inT_X6⟩
theorem fl_X8_234 : FL RX8 234 RX7 TX7 3 2 7 := ⟨tb2 127 rfl rfl, Nat.le_of_ble_eq_true rfl, rfl, inT_X7⟩
theorem fp_X8_234 : FP RX8 234 RX7 TX7 3 2 7 tyX7 := ⟨fl_X8_234, tyX7_ok, nmX7, rfl⟩
theorem fl_X8_254 : FL RX8 254 RX3 TX3 3 2 3 := ⟨tb2 110 rfl rfl, Nat.le_of_ble_eq_true rfl, rfl, inT_X3⟩
theorem fp_X8_254 : FP RX8 254 RX3 TX3 3 2 3 tyX3 := ⟨fl_X8_254, tyX3_ok, nmX3, rfl⟩
theorem fl_X8_258 : FL RX8 258 RX6 TX6 18 14 6 := ⟨tb1 95 rfl rfl, Nat.le_of_ble_eq_true rfl, rfl, inT_X6⟩
theorem fp_X8_258 : FP RX8 258 RX6 TX6 18 14 6 tyX6 := ⟨fl_X8_258, tyX6_ok, nmX6, rfl⟩
theorem fl_X8_261 : FL RX8 261 RX6 TX6 18 15 6 := ⟨tb1 97 rfl rfl, Nat.le_of_ble_eq_true rfl, rfl, inT_X6⟩
theorem fp_X8_261 : FP RX8 261 RX6 TX6 18 15 6 tyX6 := ⟨fl_X8_261, tyX6_ok, nmX6, rfl⟩
theorem fl_X8_275 : FL RX8 275 RX4 TX4 15 1 4 := ⟨tb2 29 rfl rfl, Nat.le_of_ble_eq_true rfl, rfl, inT_X4⟩
theorem fl_X8_276 : FL RX8 276 RX6 TX6 18 7 6 := ⟨tb1 78 rfl rfl, Nat.le_of_ble_eq_true rfl, rfl, inT_X6⟩
theorem fl_X8_282 : FL RX8 282 RX4 TX4 15 9 4 := ⟨tb2 41 rfl rfl, Nat.le_of_ble_eq_true rfl, rfl, inT_X4⟩
theorem fp_X8_282 : FP RX8 282 RX4 TX4 15 9 4 tyX4 := ⟨fl_X8_282, tyX4_ok, nmX4, rfl⟩
theorem fl_X0_9 : FL RX0 9 RX0 TX0 2 0 0 := ⟨tb2 141 rfl rfl, Nat.le_of_ble_eq_true rfl, rfl, inT_X0⟩
theorem fl_X0_15 : FL RX0 15 RX0 TX0 2 1 0 := ⟨tb2 142 rfl rfl, Nat.le_of_ble_eq_true rfl, rfl, inT_X0⟩
theorem fl_X0_18 : FL RX0 18 RX6 TX6 18 12 6 := ⟨tb1 88 rfl rfl, Nat.le_of_ble_eq_true rfl, rfl, inT_X6⟩
theorem fp_X0_18 : FP RX0 18 RX6 TX6 18 12 6 tyX6 := ⟨fl_X0_18, tyX6_ok, nmX6, rfl⟩
theorem fl_X0_24 : FL RX0 24 RX4 TX4 15 1 4 := ⟨tb2 28 rfl rfl, Nat.le_of_ble_eq_true rfl, rfl, inT_X4⟩
theorem fl_X0_41 : FL RX0 41 RX4 TX4 15 13 4 := ⟨tb2 45 rfl rfl, Nat.le_of_ble_eq_true rfl, rfl, inT_X4⟩
theorem fp_X0_41 : FP RX0 41 RX4 TX4 15 13 4 tyX4 := ⟨fl_X0_41, tyX4_ok, nmX4, rfl⟩
theorem fl_X0_61 : FL RX0 61 RX6 TX6 18 6 6 := ⟨tb1 73 rfl rfl, Nat.le_of_ble_eq_true rfl, rfl, inT_X6⟩
theorem fl_X1_9 : FL RX1 9 RX1 TX1 4 0 1 := ⟨tb2 87 rfl rfl, Nat.le_of_ble_eq_true rfl, rfl, inT_X1⟩
theorem fl_X1_15 : FL RX1 15 RX1 TX1 4 1 1 := ⟨tb2 88 rfl rfl, Nat.le_of_ble_eq_true rfl, rfl, inT_X1⟩
theorem fl_X1_18 : FL RX1 18 RX1 TX1 4 2 1 := ⟨tb2 89 rfl rfl, Nat.le_of_ble_eq_true rfl, rfl, inT_X1⟩
theorem fl_X1_21 : FL RX1 21 RX1 TX1 4 3 1 := ⟨tb2 90 rfl rfl, Nat.le_of_ble_eq_true rfl, rfl, inT_X1⟩
theorem fp_X1_21 : FP RX1 21 RX1 TX1 4 3 1 tyX1 := ⟨fl_X1_21, tyX1_ok, nmX1, rfl⟩
theorem fl_X1_28 : FL RX1 28 RX6 TX6 18 3 6 := ⟨tb1 62 rfl rfl, Nat.le_of_ble_eq_true rfl, rfl, inT_X6⟩
theorem fl_X1_33 : FL RX1 33 RX6 TX6 18 4 6 := ⟨tb1 67 rfl rfl, Nat.le_of_ble_eq_true rfl, rfl, inT_X6⟩
theorem fl_X2_9 : FL RX2 9 RX2 TX2 1 0 2 := ⟨tb2 154 rfl rfl, Nat.le_of_ble_eq_true rfl, rfl, inT_X2⟩
theorem fl_X2_15 : FL RX2 15 RX6 TX6 18 12 6 := ⟨tb1 87 rfl rfl, Nat.le_of_ble_eq_true rfl, rfl, inT_X6⟩
theorem fp_X2_15 : FP RX2 15 RX6 TX6 18 12 6 tyX6 := ⟨fl_X2_15, tyX6_ok, nmX6, rfl⟩
theorem fl_X2_41 : FL RX2 41 RX6 TX6 18 7 6 := ⟨tb1 77 rfl rfl, Nat.le_of_ble_eq_true rfl, rfl, inT_X6⟩
theorem fl_X3_9 : FL RX3 9 RX3 TX3 3 0 3 := ⟨tb2 107 rfl rfl, Nat.le_of_ble_eq_true rfl, rfl, inT_X3⟩
theorem fl_X3_15 : FL RX3 15 RX3 TX3 3 1 3 := ⟨tb2 108 rfl rfl, Nat.le_of_ble_eq_true rfl, rfl, inT_X3⟩
theorem fl_X3_18 : FL RX3 18 RX3 TX3 3 2 3 := ⟨tb2 109 rfl rfl, Nat.le_of_ble_eq_true rfl, rfl, inT_X3⟩
theorem fp_X3_18 : FP RX3 18 RX3 TX3 3 2 3 tyX3 := ⟨fl_X3_18, tyX3_ok, nmX3, rfl⟩
theorem fl_X3_22 : FL RX3 22 RX6 TX6 18 3 6 := ⟨tb1 61 rfl rfl, Nat.le_of_ble_eq_true rfl, rfl, inT_X6⟩
theorem fl_X3_31 : FL RX3 31 RX6 TX6 18 4 6 := ⟨tb1 66 rfl rfl, Nat.le_of_ble_eq_true rfl, rfl, inT_X6⟩
theorem fl_X4_9 : FL RX4 9 RX4 TX4 15 0 4 := ⟨tb2 25 rfl rfl, Nat.le_of_ble_eq_true rfl, rfl, inT_X4⟩
theorem fl_X4_15 : FL RX4 15 RX4 TX4 15 1 4 := ⟨tb2 27 rfl rfl, Nat.le_of_ble_eq_true rfl, rfl, inT_X4⟩
theorem fl_X4_18 : FL RX4 18 RX4 TX4 15 2 4 := ⟨tb2 30 rfl rfl, Nat.le_of_ble_eq_true rfl, rfl, inT_X4⟩
theorem fl_X4_21 : FL RX4 21 RX4 TX4 15 3 4 := ⟨tb2 31 rfl rfl, Nat.le_of_ble_eq_true rfl, rfl, inT_X4⟩
theorem fl_X4_24 : FL RX4 24 RX4 TX4 15 4 4 := ⟨tb2 34 rfl rfl, Nat.le_of_ble_eq_true rfl, rfl, inT_X4⟩
theorem fl_X4_27 : FL RX4 27 RX4 TX4 15 5 4 := ⟨tb2 36 rfl rfl, Nat.le_of_ble_eq_true rfl, rfl, inT_X4⟩
theorem fl_X4_30 : FL RX4 30 RX4 TX4 15 6 4 := ⟨tb2 37 rfl rfl, Nat.le_of_ble_eq_true rfl, rfl, inT_X4⟩
theorem fp_X4_30 : FP RX4 30 RX4 TX4 15 6 4 tyX4 := ⟨fl_X4_30, tyX4_ok, nmX4, rfl⟩
theorem fl_X4_34 : FL RX4 34 RX6 TX6 18 11 6 := ⟨tb1 83 rfl rfl, Nat.le_of_ble_eq_true rfl, rfl, inT_X6⟩
theorem fl_X4_39 : FL RX4 39 RX4 TX4 15 7 4 := ⟨tb2 38 rfl rfl, Nat.le_of_ble_eq_true rfl, rfl, inT_X4⟩
theorem fp_X4_39 : FP RX4 39 RX4 TX4 15 7 4 tyX4 := ⟨fl_X4_39, tyX4_ok, nmX4, rfl⟩
theorem fl_X4_40 : FL RX4 40 RX6 TX6 18 13 6 := ⟨tb1 91 rfl rfl, Nat.le_of_ble_eq_true rfl, rfl, inT_X6⟩
theorem fp_X4_40 : FP RX4 40 RX6 TX6 18 13 6 tyX6 := ⟨fl_X4_40, tyX6_ok, nmX6, rfl⟩
theorem fl_X4_44 : FL RX4 44 RX4 TX4 15 8 4 := ⟨tb2 39 rfl rfl, Nat.le_of_ble_eq_true rfl, rfl, inT_X4⟩
theorem fp_X4_44 : FP RX4 44 RX4 TX4 15 8 4 tyX4 := ⟨fl_X4_44, tyX4_ok, nmX4, rfl⟩
theorem fl_X4_45 : FL RX4 45 RX4 TX4 15 9 4 := ⟨tb2 40 rfl rfl, Nat.le_of_ble_eq_true rfl, rfl, inT_X4⟩
theorem fp_X4_45 : FP RX4 45 RX4 TX4 15 9 4 tyX4 := ⟨fl_X4_45, tyX4_ok, nmX4, rfl⟩
theorem fl_X4_48 : FL RX4 48 RX6 TX6 18 3 6 := ⟨tb1 60 rfl rfl, Nat.le_of_ble_eq_true rfl, rfl, inT_X6⟩
theorem fl_X4_55 : FL RX4 55 RX6 TX6 18 4 6 := ⟨tb1 65 rfl rfl, Nat.le_of_ble_eq_true rfl, rfl, inT_X6⟩
theorem fl_X4_64 : FL RX4 64 RX6 TX6 18 12 6 := ⟨tb1 89 rfl rfl, Nat.le_of_ble_eq_true rfl, rfl, inT_X6⟩
theorem fp_X4_64 : FP RX4 64 RX6 TX6 18 12 6 tyX6 := ⟨fl_X4_64, tyX6_ok, nmX6, rfl⟩
theorem fl_X4_83 : FL RX4 83 RX6 TX6 18 5 6 := ⟨tb1 70 rfl rfl, Nat.le_of_ble_eq_true rfl, rfl, inT_X6⟩
theorem fl_X4_96 : FL RX4 96 RX4 TX4 15 10 4 := ⟨tb2 42 rfl rfl, Nat.le_of_ble_eq_true rfl, rfl, inT_X4⟩
theorem fp_X4_96 : FP RX4 96 RX4 TX4 15 10 4 tyX4 := ⟨fl_X4_96, tyX4_ok, nmX4, rfl⟩
theorem fl_X4_99 : FL RX4 99 RX6 TX6 18 1 6 := ⟨tb1 55 rfl rfl, Nat.le_of_ble_eq_true rfl, rfl, inT_X6⟩
theorem fl_X4_102 : FL RX4 102 RX6 TX6 18 0 6 := ⟨tb1 52 rfl rfl, Nat.le_of_ble_eq_true rfl, rfl, inT_X6⟩
theorem fl_X4_105 : FL RX4 105 RX4 TX4 15 11 4 := ⟨tb2 43 rfl rfl, Nat.le_of_ble_eq_true rfl, rfl, inT_X4⟩
theorem fp_X4_105 : FP RX4 105 RX4 TX4 15 11 4 tyX4 := ⟨fl_X4_105, tyX4_ok, nmX4, rfl⟩
theorem fl_X4_108 : FL RX4 108 RX6 TX6 18 2 6 := ⟨tb1 58 rfl rfl, Nat.le_of_ble_eq_true rfl, rfl, inT_X6⟩
theorem fl_X4_111 : FL RX4 111 RX4 TX4 15 12 4 := ⟨tb2 44 rfl rfl, Nat.le_of_ble_eq_true rfl, rfl, inT_X4⟩
theorem fp_X4_111 : FP RX4 111 RX4 TX4 15 12 4 tyX4 := ⟨fl_X4_111, tyX4_ok, nmX4, rfl⟩
theorem fl_X4_114 : FL RX4 114 RX4 TX4 15 13 4 := ⟨tb2 46 rfl rfl, Nat.le_of_ble_eq_true rfl, rfl, inT_X4⟩
theorem fp_X4_114 : FP RX4 114 RX4 TX4 15 13 4 tyX4 := ⟨fl_X4_114, tyX4_ok, nmX4, rfl⟩
theorem fl_X4_126 : FL RX4 126 RX4 TX4 15 14 4 := ⟨tb2 48 rfl rfl, Nat.le_of_ble_eq_true rfl, rfl, inT_X4⟩
theorem fp_X4_126 : FP RX4 126 RX4 TX4 15 14 4 tyX4 := ⟨fl_X4_126, tyX4_ok, nmX4, rfl⟩
theorem fl_X4_142 : FL RX4 142 RX6 TX6 18 6 6 := ⟨tb1 75 rfl rfl, Nat.le_of_ble_eq_true rfl, rfl, inT_X6⟩
theorem fl_X5_9 : FL RX5 9 RX5 TX5 2 0 5 := ⟨tb1 32 rfl rfl, Nat.le_of_ble_eq_true rfl, rfl, inT_X5⟩
theorem fl_X5_15 : FL RX5 15 RX5 TX5 2 1 5 := ⟨tb1 33 rfl rfl, Nat.le_of_ble_eq_true rfl, rfl, inT_X5⟩
theorem fp_X5_15 : FP RX5 15 RX5 TX5 2 1 5 tyX5 := ⟨fl_X5_15, tyX5_ok, nmX5, rfl⟩
theorem fl_X6_9 : FL RX6 9 RX6 TX6 18 0 6 := ⟨tb1 50 rfl rfl, Nat.le_of_ble_eq_true rfl, rfl, inT_X6⟩
theorem fl_X6_15 : FL RX6 15 RX6 TX6 18 1 6 := ⟨tb1 53 rfl rfl, Nat.le_of_ble_eq_true rfl, rfl, inT_X6⟩
theorem fl_X6_18 : FL RX6 18 RX6 TX6 18 2 6 := ⟨tb1 56 rfl rfl, Nat.le_of_ble_eq_true rfl, rfl, inT_X6⟩
theorem fl_X6_21 : FL RX6 21 RX6 TX6 18 3 6 := ⟨tb1 59 rfl rfl, Nat.le_of_ble_eq_true rfl, rfl, inT_X6⟩
theorem fl_X6_24 : FL RX6 24 RX6 TX6 18 4 6 := ⟨tb1 64 rfl rfl, Nat.le_of_ble_eq_true rfl, rfl, inT_X6⟩
theorem fl_X6_27 : FL RX6 27 RX6 TX6 18 5 6 := ⟨tb1 69 rfl rfl, Nat.le_of_ble_eq_true rfl, rfl, inT_X6⟩
theorem fl_X6_30 : FL RX6 30 RX6 TX6 18 6 6 := ⟨tb1 72 rfl rfl, Nat.le_of_ble_eq_true rfl, rfl, inT_X6⟩
theorem fl_X6_33 : FL RX6 33 RX6 TX6 18 7 6 := ⟨tb1 76 rfl rfl, Nat.le_of_ble_eq_true rfl, rfl, inT_X6⟩
theorem fl_X6_36 : FL RX6 36 RX6 TX6 18 8 6 := ⟨tb1 79 rfl rfl, Nat.le_of_ble_eq_true rfl, rfl, inT_X6⟩
theorem fl_X6_39 : FL RX6 39 RX6 TX6 18 9 6 := ⟨tb1 81 rfl rfl, Nat.le_of_ble_eq_true rfl, rfl, inT_X6⟩
theorem fl_X6_42 : FL RX6 42 RX6 TX6 18 10 6 := ⟨tb1 82 rfl rfl, Nat.le_of_ble_eq_true rfl, rfl, inT_X6⟩
theorem fl_X6_45 : FL RX6 45 RX6 TX6 18 11 6 := ⟨tb1 84 rfl rfl, Nat.le_of_ble_eq_true rfl, rfl, inT_X6⟩
theorem fl_X6_48 : FL RX6 48 RX6 TX6 18 12 6 := ⟨tb1 86 rfl rfl, Nat.le_of_ble_eq_true rfl, rfl, inT_X6⟩
theorem fp_X6_48 : FP RX6 48 RX6 TX6 18 12 6 tyX6 := ⟨fl_X6_48, tyX6_ok, nmX6, rfl⟩
theorem fl_X6_52 : FL RX6 52 RX6 TX6 18 13 6 := ⟨tb1 92 rfl rfl, Nat.le_of_ble_eq_true rfl, rfl, inT_X6⟩
theorem fp_X6_52 : FP RX6 52 RX6 TX6 18 13 6 tyX6 := ⟨fl_X6_52, tyX6_ok, nmX6, rfl⟩
theorem fl_X6_55 : FL RX6 55 RX6 TX6 18 14 6 := ⟨tb1 94 rfl rfl, Nat.le_of_ble_eq_true rfl, rfl, inT_X6⟩
theorem fp_X6_55 : FP RX6 55 RX6 TX6 18 14 6 tyX6 := ⟨fl_X6_55, tyX6_ok, nmX6, rfl⟩
theorem fl_X6_58 : FL RX6 58 RX6 TX6 18 15 6 := ⟨tb1 96 rfl rfl, Nat.le_of_ble_eq_true rfl, rfl, inT_X6⟩
theorem fp_X6_58 : FP RX6 58 RX6 TX6 18 15 6 tyX6 := ⟨fl_X6_58, tyX6_ok, nmX6, rfl⟩
theorem fl_X6_61 : FL RX6 61 RX6 TX6 18 16 6 := ⟨tb1 98 rfl rfl, Nat.le_of_ble_eq_true rfl, rfl, inT_X6⟩
theorem fp_X6_61 : FP RX6 61 RX6 TX6 18 16 6 tyX6 := ⟨fl_X6_61, tyX6_ok, nmX6, rfl⟩
theorem fl_X6_64 : FL RX6 64 RX6 TX6 18 17 6 := ⟨tb1 99 rfl rfl, Nat.le_of_ble_eq_true rfl, rfl, inT_X6⟩
theorem fp_X6_64 : FP RX6 64 RX6 TX6 18 17 6 tyX6 := ⟨fl_X6_64, tyX6_ok, nmX6, rfl⟩
theorem fl_X7_9 : FL RX7 9 RX7 TX7 3 0 7 := ⟨tb2 124 rfl rfl, Nat.le_of_ble_eq_true rfl, rfl, inT_X7⟩
theorem fl_X7_15 : FL RX7 15 RX7 TX7 3 1 7 := ⟨tb2 125 rfl rfl, Nat.le_of_ble_eq_true rfl, rfl, inT_X7⟩
theorem fl_X7_18 : FL RX7 18 RX7 TX7 3 2 7 := ⟨tb2 126 rfl rfl, Nat.le_of_ble_eq_true rfl, rfl, inT_X7⟩
theorem fp_X7_18 : FP RX7 18 RX7 TX7 3 2 7 tyX7 := ⟨fl_X7_18, tyX7_ok, nmX7, rfl⟩
theorem fl_X7_22 : FL RX7 22 RX4 TX4 15 3 4 := ⟨tb2 32 rfl rfl, Nat.le_of_ble_eq_true rfl, rfl, inT_X4⟩
theorem fl_X9_7 : FL RX9 7 RX9 TX9 34 0 9 := ⟨tb4 64 rfl rfl, Nat.le_of_ble_eq_true rfl, rfl, inT_X9⟩
theorem fl_X9_13 : FL RX9 13 RX9 TX9 34 2 9 := ⟨tb4 66 rfl rfl, Nat.le_of_ble_eq_true rfl, rfl, inT_X9⟩
theorem fl_X9_17 : FL RX9 17 RX9 TX9 34 3 9 := ⟨tb4 67 rfl rfl, Nat.le_of_ble_eq_true rfl, rfl, inT_X9⟩
theorem fl_X9_20 : FL RX9 20 RX9 TX9 34 4 9 := ⟨tb4 68 rfl rfl, Nat.le_of_ble_eq_true rfl, rfl, inT_X9⟩
theorem fl_X9_23 : FL RX9 23 RX9 TX9 34 5 9 := ⟨tb4 69 rfl rfl, Nat.le_of_ble_eq_true rfl, rfl, inT_X9⟩
theorem fl_X9_26 : FL RX9 26 RX9 TX9 34 6 9 := ⟨tb4 70 rfl rfl, Nat.le_of_ble_eq_true rfl, rfl, inT_X9⟩
theorem fl_X9_29 : FL RX9 29 RX9 TX9 34 7 9 := ⟨tb4 71 rfl rfl, Nat.le_of_ble_eq_true rfl, rfl, inT_X9⟩
theorem fl_X9_32 : FL RX9 32 RX9 TX9 34 8 9 := ⟨tb4 72 rfl rfl, Nat.le_of_ble_eq_true rfl, rfl, inT_X9⟩
theorem fl_X9_35 : FL RX9 35 RX9 TX9 34 9 9 := ⟨tb4 73 rfl rfl, Nat.le_of_ble_eq_true rfl, rfl, inT_X9⟩
theorem fl_X9_38 : FL RX9 38 RX9 TX9 34 10 9 := ⟨tb4 74 rfl rfl, Nat.le_of_ble_eq_true rfl, rfl, inT_X9⟩
theorem fl_X9_41 : FL RX9 41 RX9 TX9 34 11 9 := ⟨tb4 75 rfl rfl, Nat.le_of_ble_eq_true rfl, rfl, inT_X9⟩
theorem fl_X9_44 : FL RX9 44 RX9 TX9 34 12 9 := ⟨tb4 76 rfl rfl, Nat.le_of_ble_eq_true rfl, rfl, inT_X9⟩
theorem fl_X9_47 : FL RX9 47 RX9 TX9 34 13 9 := ⟨tb4 77 rfl rfl, Nat.le_of_ble_eq_true rfl, rfl, inT_X9⟩
theorem fl_X9_50 : FL RX9 50 RX9 TX9 34 14 9 := ⟨tb4 78 rfl rfl, Nat.le_of_ble_eq_true rfl, rfl, inT_X9⟩
theorem fl_X9_53 : FL RX9 53 RX9 TX9 34 15 9 := ⟨tb4 79 rfl rfl, Nat.le_of_ble_eq_true rfl, rfl, inT_X9⟩
theorem fl_X9_56 : FL RX9 56 RX9 TX9 34 16 9 := ⟨tb4 80 rfl rfl, Nat.le_of_ble_eq_true rfl, rfl, inT_X9⟩
theorem fl_X9_59 : FL RX9 59 RX9 TX9 34 17 9 := ⟨tb4 81 rfl rfl, Nat.le_of_ble_eq_true rfl, rfl, inT_X9⟩
theorem fl_X9_62 : FL RX9 62 RX9 TX9 34 20 9 := ⟨tb4 84 rfl rfl, Nat.le_of_ble_eq_true rfl, rfl, inT_X9⟩
theorem fl_X9_65 : FL RX9 65 RX9 TX9 34 26 9 := ⟨tb4 90 rfl rfl, Nat.le_of_ble_eq_true rfl, rfl, inT_X9⟩
theorem fl_X9_68 : FL RX9 68 RX9 TX9 34 27 9 := ⟨tb4 91 rfl rfl, Nat.le_of_ble_eq_true rfl, rfl, inT_X9⟩
theorem fl_X9_71 : FL RX9 71 RX9 TX9 34 28 9 := ⟨tb4 92 rfl rfl, Nat.le_of_ble_eq_true rfl, rfl, inT_X9⟩
theorem fl_X9_74 : FL RX9 74 RX9 TX9 34 29 9 := ⟨tb4 93 rfl rfl, Nat.le_of_ble_eq_true rfl, rfl, inT_X9⟩
theorem fl_X9_77 : FL RX9 77 RX9 TX9 34 30 9 := ⟨tb4 94 rfl rfl, Nat.le_of_ble_eq_true rfl, rfl, inT_X9⟩
theorem fl_X9_80 : FL RX9 80 RX9 TX9 34 31 9 := ⟨tb4 95 rfl rfl, Nat.le_of_ble_eq_true rfl, rfl, inT_X9⟩
theorem fl_X9_83 : FL RX9 83 RX9 TX9 34 32 9 := ⟨tb4 96 rfl rfl, Nat.le_of_ble_eq_true rfl, rfl, inT_X9⟩
theorem fl_X9_97 : FL RX9 97 RX9 TX9 34 1 9 := ⟨tb4 65 rfl rfl, Nat.le_of_ble_eq_true rfl, rfl, inT_X9⟩
theorem fp_X9_97 : FP RX9 97 RX9 TX9 34 1 9 tyX9 := ⟨fl_X9_97, tyX9_ok, nmX9, rfl⟩
theorem fl_X9_101 : FL RX9 101 RX9 TX9 34 18 9 := ⟨tb4 82 rfl rfl, Nat.le_of_ble_eq_true rfl, rfl, inT_X9⟩
theorem fp_X9_101 : FP RX9 101 RX9 TX9 34 18 9 tyX9 := ⟨fl_X9_101, tyX9_ok, nmX9, rfl⟩
theorem fl_X9_108 : FL RX9 108 RX9 TX9 34 19 9 := ⟨tb4 83 rfl rfl, Nat.le_of_ble_eq_true rfl, rfl, inT_X9⟩
theorem fp_X9_108 : FP RX9 108 RX9 TX9 34 19 9 tyX9 := ⟨fl_X9_108, tyX9_ok, nmX9, rfl⟩
theorem fl_X9_143 : FL RX9 143 RX9 TX9 34 21 9 := ⟨tb4 85 rfl rfl, Nat.le_of_ble_eq_true rfl, rfl, inT_X9⟩
theorem fp_X9_143 : FP RX9 143 RX9 TX9 34 21 9 tyX9 := ⟨fl_X9_143, tyX9_ok, nmX9, rfl⟩
theorem fl_X9_146 : FL RX9 146 RX9 TX9 34 22 9 := ⟨tb4 86 rfl rfl, Nat.le_of_ble_eq_true rfl, rfl, inT_X9⟩
theorem fp_X9_146 : FP RX9 146 RX9 TX9 34 22 9 tyX9 := ⟨fl_X9_146, tyX9_ok, nmX9, rfl⟩
theorem fl_X9_149 : FL RX9 149 RX9 TX9 34 33 9 := ⟨tb4 97 rfl rfl, Nat.le_of_ble_eq_true rfl, rfl, inT_X9⟩
theorem fp_X9_149 : FP RX9 149 RX9 TX9 34 33 9 tyX9 := ⟨fl_X9_149, tyX9_ok, nmX9, rfl⟩
theorem fl_X9_165 : FL RX9 165 RX9 TX9 34 25 9 := ⟨tb4 89 rfl rfl, Nat.le_of_ble_eq_true rfl, rfl, inT_X9⟩
theorem fp_X9_165 : FP RX9 165 RX9 TX9 34 25 9 tyX9 := ⟨fl_X9_165, tyX9_ok, nmX9, rfl⟩
theorem fl_X9_182 : FL RX9 182 RX9 TX9 34 24 9 := ⟨tb4 88 rfl rfl, Nat.le_of_ble_eq_true rfl, rfl, inT_X9⟩
theorem fp_X9_182 : FP RX9 182 RX9 TX9 34 24 9 tyX9 := ⟨fl_X9_182, tyX9_ok, nmX9, rfl⟩
theorem fl_X9_193 : FL RX9 193 RX9 TX9 34 23 9 := ⟨tb4 87 rfl rfl, Nat.le_of_ble_eq_true rfl, rfl, inT_X9⟩
theorem fp_X9_193 : FP RX9 193 RX9 TX9 34 23 9 tyX9 := ⟨fl_X9_193, tyX9_ok, nmX9, rfl⟩
theorem cl_X8_82 : CS RX8 82 yX8_within cX8_within 3 (some .boolean) 3 := ⟨⟨tb2 197 rfl rfl, tb1 204 rfl rfl, tb1 1 rfl rfl, ⟨by decide +kernel, by decide +kernel⟩, by decide +kernel⟩, tb1 203 rfl rfl⟩
theorem cl_X8_86 : CV RX8 86 yX5_readText cX5_readText 6 (some .int) 3 := ⟨⟨tb1 183 rfl rfl, tb1 186 rfl rfl, tb1 2 rfl rfl, ⟨by decide +kernel, by decide +kernel⟩, by decide +kernel⟩, tb1 184 rfl rfl, tb1 185 rfl rfl⟩
theorem cl_X8_90 : CV RX8 90 yX6_canBeLaid cX6_canBeLaid 3 (some .boolean) 0 := ⟨⟨tb2 210 rfl rfl, tb2 213 rfl rfl, tb1 3 rfl rfl, ⟨by decide +kernel, by decide +kernel⟩, by decide +kernel⟩, tb2 211 rfl rfl, tb2 212 rfl rfl⟩
theorem cl_X8_94 : CV RX8 94 yX6_settle cX6_settle 2 none 0 := ⟨⟨tb2 10 rfl rfl, tb2 13 rfl rfl, tb1 3 rfl rfl, ⟨by decide +kernel, by decide +kernel⟩, by decide +kernel⟩, tb2 11 rfl rfl, tb2 12 rfl rfl⟩
theorem cl_X8_97 : CV RX8 97 yX1_clear cX1_clear 1 none 0 := ⟨⟨tb2 214 rfl rfl, tb2 217 rfl rfl, tb1 9 rfl rfl, ⟨by decide +kernel, by decide +kernel⟩, by decide +kernel⟩, tb2 215 rfl rfl, tb2 216 rfl rfl⟩
theorem cl_X8_100 : CV RX8 100 yX3_clear cX3_clear 1 none 0 := ⟨⟨tb2 218 rfl rfl, tb2 221 rfl rfl, tb1 10 rfl rfl, ⟨by decide +kernel, by decide +kernel⟩, by decide +kernel⟩, tb2 219 rfl rfl, tb2 220 rfl rfl⟩
theorem cl_X8_101 : CV RX8 101 yX7_clear cX7_clear 1 none 0 := ⟨⟨tb2 222 rfl rfl, tb2 225 rfl rfl, tb1 11 rfl rfl, ⟨by decide +kernel, by decide +kernel⟩, by decide +kernel⟩, tb2 223 rfl rfl, tb2 224 rfl rfl⟩
theorem cl_X8_105 : CV RX8 105 yX6_has cX6_has 2 (some .boolean) 1 := ⟨⟨tb2 230 rfl rfl, tb1 229 rfl rfl, tb1 3 rfl rfl, ⟨by decide +kernel, by decide +kernel⟩, by decide +kernel⟩, tb1 227 rfl rfl, tb1 228 rfl rfl⟩
theorem cl_X8_134 : CV RX8 134 yX4_prepare cX4_prepare 2 none 1 := ⟨⟨tb2 239 rfl rfl, tb3 2 rfl rfl, tb1 8 rfl rfl, ⟨by decide +kernel, by decide +kernel⟩, by decide +kernel⟩, tb3 0 rfl rfl, tb3 1 rfl rfl⟩
theorem cl_X8_137 : CV RX8 137 yX4_mount cX4_mount 3 none 1 := ⟨⟨tb3 6 rfl rfl, tb3 9 rfl rfl, tb1 8 rfl rfl, ⟨by decide +kernel, by decide +kernel⟩, by decide +kernel⟩, tb3 7 rfl rfl, tb3 8 rfl rfl⟩
theorem cl_X8_141 : CV RX8 141 yX4_moveUntil cX4_moveUntil 3 (some .int) 1 := ⟨⟨tb3 29 rfl rfl, tb3 32 rfl rfl, tb1 8 rfl rfl, ⟨by decide +kernel, by decide +kernel⟩, by decide +kernel⟩, tb3 30 rfl rfl, tb3 31 rfl rfl⟩
theorem lm_X8_151 : LM RX8 151 Lib.Math.min.name Lib.Math.min.code 2 := ⟨tb3 42 rfl rfl, tb3 27 rfl rfl, tb1 16 rfl rfl, tb3 28 rfl rfl⟩
theorem cl_X8_157 : CV RX8 157 yX8_raceAsItIs cX8_raceAsItIs 1 none 0 := ⟨⟨tb3 51 rfl rfl, tb3 54 rfl rfl, tb1 1 rfl rfl, ⟨by decide +kernel, by decide +kernel⟩, by decide +kernel⟩, tb3 53 rfl rfl, tb0 9 rfl rfl⟩
theorem cl_X8_166 : CV RX8 166 yX1_note cX1_note 3 none 2 := ⟨⟨tb3 77 rfl rfl, tb3 80 rfl rfl, tb1 9 rfl rfl, ⟨by decide +kernel, by decide +kernel⟩, by decide +kernel⟩, tb3 78 rfl rfl, tb3 79 rfl rfl⟩
theorem cl_X8_170 : CV RX8 170 yX6_isRidden cX6_isRidden 3 (some .boolean) 1 := ⟨⟨tb3 90 rfl rfl, tb3 93 rfl rfl, tb1 3 rfl rfl, ⟨by decide +kernel, by decide +kernel⟩, by decide +kernel⟩, tb3 91 rfl rfl, tb3 92 rfl rfl⟩
theorem cl_X8_173 : CV RX8 173 yX8_changeCarrier cX8_changeCarrier 4 (some .int) 2 := ⟨⟨tb3 94 rfl rfl, tb3 97 rfl rfl, tb1 1 rfl rfl, ⟨by decide +kernel, by decide +kernel⟩, by decide +kernel⟩, tb3 96 rfl rfl, tb0 13 rfl rfl⟩
theorem cl_X8_176 : CV RX8 176 yX1_takeBack cX1_takeBack 2 (some .boolean) 1 := ⟨⟨tb3 106 rfl rfl, tb3 109 rfl rfl, tb1 9 rfl rfl, ⟨by decide +kernel, by decide +kernel⟩, by decide +kernel⟩, tb3 107 rfl rfl, tb3 108 rfl rfl⟩
theorem cl_X8_184 : CV RX8 184 yX4_run cX4_run 4 none 0 := ⟨⟨tb3 55 rfl rfl, tb3 58 rfl rfl, tb1 8 rfl rfl, ⟨by decide +kernel, by decide +kernel⟩, by decide +kernel⟩, tb3 56 rfl rfl, tb3 57 rfl rfl⟩
theorem cl_X8_187 : CV RX8 187 yX8_rankRidingOn cX8_rankRidingOn 3 (some .int) 2 := ⟨⟨tb3 119 rfl rfl, tb3 122 rfl rfl, tb1 1 rfl rfl, ⟨by decide +kernel, by decide +kernel⟩, by decide +kernel⟩, tb3 121 rfl rfl, tb0 14 rfl rfl⟩
theorem cl_X8_190 : CV RX8 190 yX8_lightOnes cX8_lightOnes 4 (some .int) 1 := ⟨⟨tb3 127 rfl rfl, tb3 130 rfl rfl, tb1 1 rfl rfl, ⟨by decide +kernel, by decide +kernel⟩, by decide +kernel⟩, tb3 129 rfl rfl, tb0 15 rfl rfl⟩
theorem cl_X8_193 : CV RX8 193 yX8_bearersOf cX8_bearersOf 4 (some .int) 1 := ⟨⟨tb3 131 rfl rfl, tb3 134 rfl rfl, tb1 1 rfl rfl, ⟨by decide +kernel, by decide +kernel⟩, by decide +kernel⟩, tb3 133 rfl rfl, tb0 16 rfl rfl⟩
theorem cl_X8_196 : CV RX8 196 yX0_span cX0_span 4 none 2 := ⟨⟨tb3 139 rfl rfl, tb3 142 rfl rfl, tb1 12 rfl rfl, ⟨by decide +kernel, by decide +kernel⟩, by decide +kernel⟩, tb3 140 rfl rfl, tb3 141 rfl rfl⟩
theorem cl_X8_200 : CV RX8 200 yX0_firstBits cX0_firstBits 3 (some .int) 0 := ⟨⟨tb3 159 rfl rfl, tb3 162 rfl rfl, tb1 12 rfl rfl, ⟨by decide +kernel, by decide +kernel⟩, by decide +kernel⟩, tb3 160 rfl rfl, tb3 161 rfl rfl⟩
theorem cl_X8_204 : CV RX8 204 yX0_widthsOf cX0_widthsOf 4 (some .int) 1 := ⟨⟨tb3 163 rfl rfl, tb3 166 rfl rfl, tb1 12 rfl rfl, ⟨by decide +kernel, by decide +kernel⟩, by decide +kernel⟩, tb3 164 rfl rfl, tb3 165 rfl rfl⟩
theorem cl_X8_207 : CV RX8 207 yX8_wouldRather cX8_wouldRather 4 (some .boolean) 2 := ⟨⟨tb3 171 rfl rfl, tb3 174 rfl rfl, tb1 1 rfl rfl, ⟨by decide +kernel, by decide +kernel⟩, by decide +kernel⟩, tb3 173 rfl rfl, tb0 19 rfl rfl⟩
theorem cl_X8_211 : CV RX8 211 yX2_weigh cX2_weigh 7 none 1 := ⟨⟨tb3 182 rfl rfl, tb3 185 rfl rfl, tb1 13 rfl rfl, ⟨by decide +kernel, by decide +kernel⟩, by decide +kernel⟩, tb3 183 rfl rfl, tb3 184 rfl rfl⟩
theorem cl_X8_217 : CV RX8 217 yX2_holder cX2_holder 6 (some .int) 2 := ⟨⟨tb3 198 rfl rfl, tb3 201 rfl rfl, tb1 13 rfl rfl, ⟨by decide +kernel, by decide +kernel⟩, by decide +kernel⟩, tb3 199 rfl rfl, tb3 200 rfl rfl⟩
theorem cl_X8_224 : CV RX8 224 yX8_chancesOfFirst cX8_chancesOfFirst 8 (some .int) 3 := ⟨⟨tb3 214 rfl rfl, tb3 217 rfl rfl, tb1 1 rfl rfl, ⟨by decide +kernel, by decide +kernel⟩, by decide +kernel⟩, tb3 216 rfl rfl, tb0 21 rfl rfl⟩
theorem cl_X8_228 : CS RX8 228 yX8_commonDivisor cX8_commonDivisor 6 (some .int) 2 := ⟨⟨tb3 218 rfl rfl, tb3 220 rfl rfl, tb1 1 rfl rfl, ⟨by decide +kernel, by decide +kernel⟩, by decide +kernel⟩, tb3 219 rfl rfl⟩
theorem cl_X8_231 : CV RX8 231 yX7_add cX7_add 3 (some .boolean) 2 := ⟨⟨tb3 225 rfl rfl, tb3 228 rfl rfl, tb1 11 rfl rfl, ⟨by decide +kernel, by decide +kernel⟩, by decide +kernel⟩, tb3 226 rfl rfl, tb3 227 rfl rfl⟩
theorem cl_X8_235 : CV RX8 235 yX4_unseatAll cX4_unseatAll 2 none 0 := ⟨⟨tb3 237 rfl rfl, tb4 0 rfl rfl, tb1 8 rfl rfl, ⟨by decide +kernel, by decide +kernel⟩, by decide +kernel⟩, tb3 238 rfl rfl, tb3 239 rfl rfl⟩
theorem cl_X8_238 : CV RX8 238 yX8_explains cX8_explains 3 (some .boolean) 2 := ⟨⟨tb4 1 rfl rfl, tb4 4 rfl rfl, tb1 1 rfl rfl, ⟨by decide +kernel, by decide +kernel⟩, by decide +kernel⟩, tb4 3 rfl rfl, tb0 22 rfl rfl⟩
theorem cl_X8_241 : CV RX8 241 yX7_agreeWith cX7_agreeWith 3 (some .boolean) 1 := ⟨⟨tb4 5 rfl rfl, tb4 8 rfl rfl, tb1 11 rfl rfl, ⟨by decide +kernel, by decide +kernel⟩, by decide +kernel⟩, tb4 6 rfl rfl, tb4 7 rfl rfl⟩
theorem cl_X8_245 : CV RX8 245 yX4_drawFlow cX4_drawFlow 5 none 1 := ⟨⟨tb4 13 rfl rfl, tb4 16 rfl rfl, tb1 8 rfl rfl, ⟨by decide +kernel, by decide +kernel⟩, by decide +kernel⟩, tb4 14 rfl rfl, tb4 15 rfl rfl⟩
theorem cl_X8_248 : CV RX8 248 yX4_lastLanding cX4_lastLanding 3 (some .int) 0 := ⟨⟨tb4 21 rfl rfl, tb4 24 rfl rfl, tb1 8 rfl rfl, ⟨by decide +kernel, by decide +kernel⟩, by decide +kernel⟩, tb4 22 rfl rfl, tb4 23 rfl rfl⟩
theorem cl_X8_251 : CV RX8 251 yX3_push cX3_push 2 (some .boolean) 1 := ⟨⟨tb4 29 rfl rfl, tb4 32 rfl rfl, tb1 10 rfl rfl, ⟨by decide +kernel, by decide +kernel⟩, by decide +kernel⟩, tb4 30 rfl rfl, tb4 31 rfl rfl⟩
theorem cl_X8_255 : CV RX8 255 yX3_pop cX3_pop 2 (some .boolean) 1 := ⟨⟨tb4 38 rfl rfl, tb4 41 rfl rfl, tb1 10 rfl rfl, ⟨by decide +kernel, by decide +kernel⟩, by decide +kernel⟩, tb4 39 rfl rfl, tb4 40 rfl rfl⟩
theorem cl_X8_264 : CV RX8 264 yX6_riders cX6_riders 3 (some .int) 0 := ⟨⟨tb4 46 rfl rfl, tb4 49 rfl rfl, tb1 3 rfl rfl, ⟨by decide +kernel, by decide +kernel⟩, by decide +kernel⟩, tb4 47 rfl rfl, tb4 48 rfl rfl⟩
theorem lm_X8_279 : LM RX8 279 Lib.Math.abs.name Lib.Math.abs.code 1 := ⟨tb3 175 rfl rfl, tb3 176 rfl rfl, tb1 16 rfl rfl, tb3 177 rfl rfl⟩
theorem cl_X0_29 : CV RX0 29 yX0_crossWidest cX0_crossWidest 8 none 3 := ⟨⟨tb3 143 rfl rfl, tb3 146 rfl rfl, tb1 12 rfl rfl, ⟨by decide +kernel, by decide +kernel⟩, by decide +kernel⟩, tb3 145 rfl rfl, tb0 17 rfl rfl⟩
theorem cl_X0_33 : CV RX0 33 yX4_firstRiderOrSelf cX4_firstRiderOrSelf 4 (some .int) 1 := ⟨⟨tb3 155 rfl rfl, tb3 158 rfl rfl, tb1 8 rfl rfl, ⟨by decide +kernel, by decide +kernel⟩, by decide +kernel⟩, tb3 156 rfl rfl, tb3 157 rfl rfl⟩
theorem cl_X0_37 : CV RX0 37 yX4_mount cX4_mount 3 none 1 := ⟨⟨tb3 147 rfl rfl, tb3 9 rfl rfl, tb1 8 rfl rfl, ⟨by decide +kernel, by decide +kernel⟩, by decide +kernel⟩, tb3 7 rfl rfl, tb3 8 rfl rfl⟩
theorem cl_X0_44 : CV RX0 44 yX4_yardsIn cX4_yardsIn 3 (some .int) 1 := ⟨⟨tb3 148 rfl rfl, tb3 36 rfl rfl, tb1 8 rfl rfl, ⟨by decide +kernel, by decide +kernel⟩, by decide +kernel⟩, tb3 34 rfl rfl, tb3 35 rfl rfl⟩
theorem lm_X0_47 : LM RX0 47 Lib.Math.min.name Lib.Math.min.code 2 := ⟨tb3 149 rfl rfl, tb3 27 rfl rfl, tb1 16 rfl rfl, tb3 28 rfl rfl⟩
theorem cl_X0_53 : CV RX0 53 yX0_offer cX0_offer 7 none 4 := ⟨⟨tb3 150 rfl rfl, tb3 153 rfl rfl, tb1 12 rfl rfl, ⟨by decide +kernel, by decide +kernel⟩, by decide +kernel⟩, tb3 152 rfl rfl, tb0 18 rfl rfl⟩
theorem cl_X0_57 : CV RX0 57 yX6_has cX6_has 2 (some .boolean) 1 := ⟨⟨tb3 154 rfl rfl, tb1 229 rfl rfl, tb1 3 rfl rfl, ⟨by decide +kernel, by decide +kernel⟩, by decide +kernel⟩, tb1 227 rfl rfl, tb1 228 rfl rfl⟩
theorem cl_X1_25 : CV RX1 25 yX1_dropOldest cX1_dropOldest 1 none 0 := ⟨⟨tb3 81 rfl rfl, tb3 84 rfl rfl, tb1 9 rfl rfl, ⟨by decide +kernel, by decide +kernel⟩, by decide +kernel⟩, tb3 83 rfl rfl, tb0 12 rfl rfl⟩
theorem lc_X1_36 : LC RX1 36 := ⟨tb3 85 rfl rfl, tb3 5 rfl rfl, tb3 4 rfl rfl, tb1 15 rfl rfl⟩
theorem cl_X1_42 : CV RX1 42 yX6_has cX6_has 2 (some .boolean) 1 := ⟨⟨tb3 110 rfl rfl, tb1 229 rfl rfl, tb1 3 rfl rfl, ⟨by decide +kernel, by decide +kernel⟩, by decide +kernel⟩, tb1 227 rfl rfl, tb1 228 rfl rfl⟩
theorem cl_X2_21 : CS RX2 21 yJ6_bitCount_0f7a4 cJ6_bitCount_0f7a4 1 (some .int) 1 := ⟨⟨tb3 186 rfl rfl, tb3 188 rfl rfl, tb1 17 rfl rfl, ⟨by decide +kernel, by decide +kernel⟩, by decide +kernel⟩, tb3 187 rfl rfl⟩
theorem cl_X2_28 : CS RX2 28 yX2_off cX2_off 3 (some .int) 3 := ⟨⟨tb3 193 rfl rfl, tb3 195 rfl rfl, tb1 13 rfl rfl, ⟨by decide +kernel, by decide +kernel⟩, by decide +kernel⟩, tb3 194 rfl rfl⟩
theorem lm_X2_32 : LM RX2 32 Lib.Math.min.name Lib.Math.min.code 2 := ⟨tb3 197 rfl rfl, tb3 27 rfl rfl, tb1 16 rfl rfl, tb3 28 rfl rfl⟩
theorem cl_X2_38 : CV RX2 38 yX2_lowestFitting cX2_lowestFitting 5 (some .int) 3 := ⟨⟨tb3 202 rfl rfl, tb3 205 rfl rfl, tb1 13 rfl rfl, ⟨by decide +kernel, by decide +kernel⟩, by decide +kernel⟩, tb3 204 rfl rfl, tb0 20 rfl rfl⟩
theorem lm_X2_44 : LM RX2 44 Lib.Math.abs.name Lib.Math.abs.code 1 := ⟨tb3 196 rfl rfl, tb3 176 rfl rfl, tb1 16 rfl rfl, tb3 177 rfl rfl⟩
theorem lc_X3_25 : LC RX3 25 := ⟨tb4 33 rfl rfl, tb3 5 rfl rfl, tb3 4 rfl rfl, tb1 15 rfl rfl⟩
theorem lc_X4_49 : LC RX4 49 := ⟨tb3 3 rfl rfl, tb3 5 rfl rfl, tb3 4 rfl rfl, tb1 15 rfl rfl⟩
theorem cl_X4_67 : CV RX4 67 yX4_mount cX4_mount 3 none 1 := ⟨⟨tb3 59 rfl rfl, tb3 9 rfl rfl, tb1 8 rfl rfl, ⟨by decide +kernel, by decide +kernel⟩, by decide +kernel⟩, tb3 7 rfl rfl, tb3 8 rfl rfl⟩
theorem cl_X4_71 : CV RX4 71 yX4_moveUntil cX4_moveUntil 3 (some .int) 1 := ⟨⟨tb3 60 rfl rfl, tb3 32 rfl rfl, tb1 8 rfl rfl, ⟨by decide +kernel, by decide +kernel⟩, by decide +kernel⟩, tb3 30 rfl rfl, tb3 31 rfl rfl⟩
theorem cl_X4_75 : CV RX4 75 yX4_isAhead cX4_isAhead 5 (some .boolean) 2 := ⟨⟨tb3 61 rfl rfl, tb3 64 rfl rfl, tb1 8 rfl rfl, ⟨by decide +kernel, by decide +kernel⟩, by decide +kernel⟩, tb3 63 rfl rfl, tb0 10 rfl rfl⟩
theorem cl_X4_79 : CV RX4 79 yX6_has cX6_has 2 (some .boolean) 1 := ⟨⟨tb3 10 rfl rfl, tb1 229 rfl rfl, tb1 3 rfl rfl, ⟨by decide +kernel, by decide +kernel⟩, by decide +kernel⟩, tb1 227 rfl rfl, tb1 228 rfl rfl⟩
theorem cl_X4_86 : CV RX4 86 yX4_mountBeast cX4_mountBeast 4 none 1 := ⟨⟨tb3 11 rfl rfl, tb3 14 rfl rfl, tb1 8 rfl rfl, ⟨by decide +kernel, by decide +kernel⟩, by decide +kernel⟩, tb3 13 rfl rfl, tb0 5 rfl rfl⟩
theorem cl_X4_89 : CV RX4 89 yX4_mountRaft cX4_mountRaft 4 none 1 := ⟨⟨tb3 15 rfl rfl, tb3 18 rfl rfl, tb1 8 rfl rfl, ⟨by decide +kernel, by decide +kernel⟩, by decide +kernel⟩, tb3 17 rfl rfl, tb0 6 rfl rfl⟩
theorem cl_X4_92 : CV RX4 92 yX4_earliestHelp cX4_earliestHelp 3 (some .int) 0 := ⟨⟨tb3 22 rfl rfl, tb3 25 rfl rfl, tb1 8 rfl rfl, ⟨by decide +kernel, by decide +kernel⟩, by decide +kernel⟩, tb3 24 rfl rfl, tb0 7 rfl rfl⟩
theorem lm_X4_117 : LM RX4 117 Lib.Math.max.name Lib.Math.max.code 2 := ⟨tb3 19 rfl rfl, tb3 20 rfl rfl, tb1 16 rfl rfl, tb3 21 rfl rfl⟩
theorem lm_X4_123 : LM RX4 123 Lib.Math.min.name Lib.Math.min.code 2 := ⟨tb3 26 rfl rfl, tb3 27 rfl rfl, tb1 16 rfl rfl, tb3 28 rfl rfl⟩
theorem cl_X4_129 : CV RX4 129 yX4_yardsIn cX4_yardsIn 3 (some .int) 1 := ⟨⟨tb3 33 rfl rfl, tb3 36 rfl rfl, tb1 8 rfl rfl, ⟨by decide +kernel, by decide +kernel⟩, by decide +kernel⟩, tb3 34 rfl rfl, tb3 35 rfl rfl⟩
theorem cl_X4_132 : CV RX4 132 yX4_takenIn cX4_takenIn 2 (some .int) 1 := ⟨⟨tb3 37 rfl rfl, tb3 40 rfl rfl, tb1 8 rfl rfl, ⟨by decide +kernel, by decide +kernel⟩, by decide +kernel⟩, tb3 39 rfl rfl, tb0 8 rfl rfl⟩
theorem cl_X4_139 : CV RX4 139 yX4_leader cX4_leader 3 (some .int) 1 := ⟨⟨tb3 65 rfl rfl, tb3 68 rfl rfl, tb1 8 rfl rfl, ⟨by decide +kernel, by decide +kernel⟩, by decide +kernel⟩, tb3 67 rfl rfl, tb0 11 rfl rfl⟩
theorem cl_X5_19 : CV RX5 19 yX6_clear cX6_clear 1 none 0 := ⟨⟨tb1 187 rfl rfl, tb1 190 rfl rfl, tb1 3 rfl rfl, ⟨by decide +kernel, by decide +kernel⟩, by decide +kernel⟩, tb1 188 rfl rfl, tb1 189 rfl rfl⟩
theorem cl_X5_24 : CV RX5 24 yX5_readItem cX5_readItem 7 (some .boolean) 3 := ⟨⟨tb1 191 rfl rfl, tb1 194 rfl rfl, tb1 2 rfl rfl, ⟨by decide +kernel, by decide +kernel⟩, by decide +kernel⟩, tb1 193 rfl rfl, tb0 0 rfl rfl⟩
theorem cl_X5_28 : CV RX5 28 yX5_tell cX5_tell 3 (some .boolean) 2 := ⟨⟨tb1 205 rfl rfl, tb1 208 rfl rfl, tb1 2 rfl rfl, ⟨by decide +kernel, by decide +kernel⟩, by decide +kernel⟩, tb1 207 rfl rfl, tb0 2 rfl rfl⟩
theorem cl_X5_32 : CS RX5 32 yX5_numbersBehind cX5_numbersBehind 1 (some .int) 1 := ⟨⟨tb1 195 rfl rfl, tb1 197 rfl rfl, tb1 2 rfl rfl, ⟨by decide +kernel, by decide +kernel⟩, by decide +kernel⟩, tb1 196 rfl rfl⟩
theorem cl_X5_36 : CV RX5 36 yX5_readNumber cX5_readNumber 6 (some .boolean) 3 := ⟨⟨tb1 198 rfl rfl, tb1 201 rfl rfl, tb1 2 rfl rfl, ⟨by decide +kernel, by decide +kernel⟩, by decide +kernel⟩, tb1 200 rfl rfl, tb0 1 rfl rfl⟩
theorem cl_X5_43 : CV RX5 43 yX6_addBeast cX6_addBeast 5 (some .boolean) 4 := ⟨⟨tb1 209 rfl rfl, tb1 212 rfl rfl, tb1 3 rfl rfl, ⟨by decide +kernel, by decide +kernel⟩, by decide +kernel⟩, tb1 210 rfl rfl, tb1 211 rfl rfl⟩
theorem cl_X5_47 : CV RX5 47 yX6_setWidth cX6_setWidth 2 (some .boolean) 1 := ⟨⟨tb1 214 rfl rfl, tb1 217 rfl rfl, tb1 3 rfl rfl, ⟨by decide +kernel, by decide +kernel⟩, by decide +kernel⟩, tb1 215 rfl rfl, tb1 216 rfl rfl⟩
theorem cl_X5_51 : CV RX5 51 yX6_addCurrent cX6_addCurrent 3 (some .boolean) 2 := ⟨⟨tb1 218 rfl rfl, tb1 221 rfl rfl, tb1 3 rfl rfl, ⟨by decide +kernel, by decide +kernel⟩, by decide +kernel⟩, tb1 219 rfl rfl, tb1 220 rfl rfl⟩
theorem cl_X5_55 : CV RX5 55 yX6_setCarrier cX6_setCarrier 3 (some .boolean) 2 := ⟨⟨tb1 222 rfl rfl, tb1 225 rfl rfl, tb1 3 rfl rfl, ⟨by decide +kernel, by decide +kernel⟩, by decide +kernel⟩, tb1 223 rfl rfl, tb1 224 rfl rfl⟩
theorem cl_X5_58 : CV RX5 58 yX6_addRaft cX6_addRaft 4 (some .boolean) 3 := ⟨⟨tb1 230 rfl rfl, tb1 233 rfl rfl, tb1 3 rfl rfl, ⟨by decide +kernel, by decide +kernel⟩, by decide +kernel⟩, tb1 231 rfl rfl, tb1 232 rfl rfl⟩
theorem cl_X5_61 : CV RX5 61 yX6_addVoice cX6_addVoice 2 (some .boolean) 1 := ⟨⟨tb1 238 rfl rfl, tb2 1 rfl rfl, tb1 3 rfl rfl, ⟨by decide +kernel, by decide +kernel⟩, by decide +kernel⟩, tb1 239 rfl rfl, tb2 0 rfl rfl⟩
theorem cl_X5_64 : CV RX5 64 yX6_setWant cX6_setWant 3 (some .boolean) 2 := ⟨⟨tb2 2 rfl rfl, tb2 5 rfl rfl, tb1 3 rfl rfl, ⟨by decide +kernel, by decide +kernel⟩, by decide +kernel⟩, tb2 3 rfl rfl, tb2 4 rfl rfl⟩
theorem cl_X5_67 : CV RX5 67 yX6_setHarvest cX6_setHarvest 3 (some .boolean) 2 := ⟨⟨tb2 6 rfl rfl, tb2 9 rfl rfl, tb1 3 rfl rfl, ⟨by decide +kernel, by decide +kernel⟩, by decide +kernel⟩, tb2 7 rfl rfl, tb2 8 rfl rfl⟩
theorem cl_X6_72 : CV RX6 72 yX6_has cX6_has 2 (some .boolean) 1 := ⟨⟨tb1 226 rfl rfl, tb1 229 rfl rfl, tb1 3 rfl rfl, ⟨by decide +kernel, by decide +kernel⟩, by decide +kernel⟩, tb1 227 rfl rfl, tb1 228 rfl rfl⟩
theorem cl_X6_76 : CV RX6 76 yX6_putOnRaft cX6_putOnRaft 2 none 1 := ⟨⟨tb1 234 rfl rfl, tb1 237 rfl rfl, tb1 3 rfl rfl, ⟨by decide +kernel, by decide +kernel⟩, by decide +kernel⟩, tb1 236 rfl rfl, tb0 3 rfl rfl⟩
theorem cl_X6_80 : CV RX6 80 yX6_addVoice cX6_addVoice 2 (some .boolean) 1 := ⟨⟨tb2 14 rfl rfl, tb2 1 rfl rfl, tb1 3 rfl rfl, ⟨by decide +kernel, by decide +kernel⟩, by decide +kernel⟩, tb1 239 rfl rfl, tb2 0 rfl rfl⟩
theorem cl_X6_83 : CV RX6 83 yX6_takenFrom cX6_takenFrom 5 (some .int) 1 := ⟨⟨tb2 15 rfl rfl, tb2 18 rfl rfl, tb1 3 rfl rfl, ⟨by decide +kernel, by decide +kernel⟩, by decide +kernel⟩, tb2 17 rfl rfl, tb0 4 rfl rfl⟩
theorem cl_L_13 : CV RL 13 yX8_write cX8_write 2 (some .int) 1 := ⟨⟨tb2 193 rfl rfl, tb2 196 rfl rfl, tb1 1 rfl rfl, ⟨by decide +kernel, by decide +kernel⟩, by decide +kernel⟩, tb2 194 rfl rfl, tb2 195 rfl rfl⟩
theorem cl_L_17 : CV RL 17 yX9_write cX9_write 2 (some .int) 1 := ⟨⟨tb4 167 rfl rfl, tb4 170 rfl rfl, tb1 14 rfl rfl, ⟨by decide +kernel, by decide +kernel⟩, by decide +kernel⟩, tb4 168 rfl rfl, tb4 169 rfl rfl⟩
theorem cl_L_18 : CV RL 18 yX8_wipe cX8_wipe 2 (some .int) 0 := ⟨⟨tb2 198 rfl rfl, tb2 201 rfl rfl, tb1 1 rfl rfl, ⟨by decide +kernel, by decide +kernel⟩, by decide +kernel⟩, tb2 199 rfl rfl, tb2 200 rfl rfl⟩
theorem cl_L_22 : CV RL 22 yX9_wipe cX9_wipe 2 (some .int) 0 := ⟨⟨tb4 174 rfl rfl, tb4 177 rfl rfl, tb1 14 rfl rfl, ⟨by decide +kernel, by decide +kernel⟩, by decide +kernel⟩, tb4 175 rfl rfl, tb4 176 rfl rfl⟩
theorem cl_L_23 : CV RL 23 yX8_fault cX8_fault 1 (some .int) 0 := ⟨⟨tb2 202 rfl rfl, tb2 205 rfl rfl, tb1 1 rfl rfl, ⟨by decide +kernel, by decide +kernel⟩, by decide +kernel⟩, tb2 203 rfl rfl, tb2 204 rfl rfl⟩
theorem cl_L_26 : CV RL 26 yX9_fault cX9_fault 2 (some .int) 0 := ⟨⟨tb4 178 rfl rfl, tb4 181 rfl rfl, tb1 14 rfl rfl, ⟨by decide +kernel, by decide +kernel⟩, by decide +kernel⟩, tb4 179 rfl rfl, tb4 180 rfl rfl⟩
theorem cl_L_27 : CV RL 27 yX8_lay cX8_lay 2 (some .int) 0 := ⟨⟨tb2 206 rfl rfl, tb2 209 rfl rfl, tb1 1 rfl rfl, ⟨by decide +kernel, by decide +kernel⟩, by decide +kernel⟩, tb2 207 rfl rfl, tb2 208 rfl rfl⟩
theorem cl_L_30 : CV RL 30 yX9_lay cX9_lay 2 (some .int) 0 := ⟨⟨tb4 210 rfl rfl, tb4 213 rfl rfl, tb1 14 rfl rfl, ⟨by decide +kernel, by decide +kernel⟩, by decide +kernel⟩, tb4 211 rfl rfl, tb4 212 rfl rfl⟩
theorem cl_L_31 : CV RL 31 yX8_beast cX8_beast 3 (some .int) 2 := ⟨⟨tb2 226 rfl rfl, tb2 229 rfl rfl, tb1 1 rfl rfl, ⟨by decide +kernel, by decide +kernel⟩, by decide +kernel⟩, tb2 227 rfl rfl, tb2 228 rfl rfl⟩
theorem cl_L_35 : CV RL 35 yX9_beast cX9_beast 3 (some .int) 2 := ⟨⟨tb4 223 rfl rfl, tb4 226 rfl rfl, tb1 14 rfl rfl, ⟨by decide +kernel, by decide +kernel⟩, by decide +kernel⟩, tb4 224 rfl rfl, tb4 225 rfl rfl⟩
theorem cl_L_36 : CV RL 36 yX8_current cX8_current 2 (some .int) 1 := ⟨⟨tb2 231 rfl rfl, tb2 234 rfl rfl, tb1 1 rfl rfl, ⟨by decide +kernel, by decide +kernel⟩, by decide +kernel⟩, tb2 232 rfl rfl, tb2 233 rfl rfl⟩
theorem cl_L_39 : CV RL 39 yX9_current cX9_current 2 (some .int) 1 := ⟨⟨tb4 239 rfl rfl, tb5 2 rfl rfl, tb1 14 rfl rfl, ⟨by decide +kernel, by decide +kernel⟩, by decide +kernel⟩, tb5 0 rfl rfl, tb5 1 rfl rfl⟩
theorem cl_L_40 : CV RL 40 yX8_where cX8_where 3 (some .int) 2 := ⟨⟨tb2 235 rfl rfl, tb2 238 rfl rfl, tb1 1 rfl rfl, ⟨by decide +kernel, by decide +kernel⟩, by decide +kernel⟩, tb2 236 rfl rfl, tb2 237 rfl rfl⟩
theorem cl_L_43 : CV RL 43 yX9_where cX9_where 3 (some .int) 2 := ⟨⟨tb5 7 rfl rfl, tb5 10 rfl rfl, tb1 14 rfl rfl, ⟨by decide +kernel, by decide +kernel⟩, by decide +kernel⟩, tb5 8 rfl rfl, tb5 9 rfl rfl⟩
theorem cl_L_44 : CV RL 44 yX8_lands cX8_lands 3 (some .int) 1 := ⟨⟨tb3 43 rfl rfl, tb3 46 rfl rfl, tb1 1 rfl rfl, ⟨by decide +kernel, by decide +kernel⟩, by decide +kernel⟩, tb3 44 rfl rfl, tb3 45 rfl rfl⟩
theorem cl_L_47 : CV RL 47 yX9_lands cX9_lands 2 (some .int) 1 := ⟨⟨tb5 39 rfl rfl, tb5 42 rfl rfl, tb1 14 rfl rfl, ⟨by decide +kernel, by decide +kernel⟩, by decide +kernel⟩, tb5 40 rfl rfl, tb5 41 rfl rfl⟩
theorem cl_L_48 : CV RL 48 yX8_rank cX8_rank 2 (some .int) 1 := ⟨⟨tb3 47 rfl rfl, tb3 50 rfl rfl, tb1 1 rfl rfl, ⟨by decide +kernel, by decide +kernel⟩, by decide +kernel⟩, tb3 48 rfl rfl, tb3 49 rfl rfl⟩
theorem cl_L_51 : CV RL 51 yX9_rank cX9_rank 2 (some .int) 1 := ⟨⟨tb5 47 rfl rfl, tb5 50 rfl rfl, tb1 14 rfl rfl, ⟨by decide +kernel, by decide +kernel⟩, by decide +kernel⟩, tb5 48 rfl rfl, tb5 49 rfl rfl⟩
theorem cl_L_52 : CV RL 52 yX8_who cX8_who 2 (some .int) 1 := ⟨⟨tb3 69 rfl rfl, tb3 72 rfl rfl, tb1 1 rfl rfl, ⟨by decide +kernel, by decide +kernel⟩, by decide +kernel⟩, tb3 70 rfl rfl, tb3 71 rfl rfl⟩
theorem cl_L_55 : CV RL 55 yX9_who cX9_who 2 (some .int) 1 := ⟨⟨tb5 63 rfl rfl, tb5 66 rfl rfl, tb1 14 rfl rfl, ⟨by decide +kernel, by decide +kernel⟩, by decide +kernel⟩, tb5 64 rfl rfl, tb5 65 rfl rfl⟩
theorem cl_L_56 : CV RL 56 yX8_start cX8_start 4 (some .int) 2 := ⟨⟨tb3 73 rfl rfl, tb3 76 rfl rfl, tb1 1 rfl rfl, ⟨by decide +kernel, by decide +kernel⟩, by decide +kernel⟩, tb3 74 rfl rfl, tb3 75 rfl rfl⟩
theorem cl_L_59 : CV RL 59 yX9_start cX9_start 4 (some .int) 2 := ⟨⟨tb5 71 rfl rfl, tb5 74 rfl rfl, tb1 14 rfl rfl, ⟨by decide +kernel, by decide +kernel⟩, by decide +kernel⟩, tb5 72 rfl rfl, tb5 73 rfl rfl⟩
theorem cl_L_60 : CV RL 60 yX8_ride cX8_ride 3 (some .int) 2 := ⟨⟨tb3 86 rfl rfl, tb3 89 rfl rfl, tb1 1 rfl rfl, ⟨by decide +kernel, by decide +kernel⟩, by decide +kernel⟩, tb3 87 rfl rfl, tb3 88 rfl rfl⟩
theorem cl_L_63 : CV RL 63 yX9_ride cX9_ride 4 (some .int) 2 := ⟨⟨tb5 83 rfl rfl, tb5 86 rfl rfl, tb1 14 rfl rfl, ⟨by decide +kernel, by decide +kernel⟩, by decide +kernel⟩, tb5 84 rfl rfl, tb5 85 rfl rfl⟩
theorem cl_L_64 : CV RL 64 yX8_leave cX8_leave 2 (some .int) 1 := ⟨⟨tb3 98 rfl rfl, tb3 101 rfl rfl, tb1 1 rfl rfl, ⟨by decide +kernel, by decide +kernel⟩, by decide +kernel⟩, tb3 99 rfl rfl, tb3 100 rfl rfl⟩
theorem cl_L_67 : CV RL 67 yX9_leave cX9_leave 3 (some .int) 1 := ⟨⟨tb5 91 rfl rfl, tb5 94 rfl rfl, tb1 14 rfl rfl, ⟨by decide +kernel, by decide +kernel⟩, by decide +kernel⟩, tb5 92 rfl rfl, tb5 93 rfl rfl⟩
theorem cl_L_68 : CV RL 68 yX8_undo cX8_undo 1 (some .int) 0 := ⟨⟨tb3 102 rfl rfl, tb3 105 rfl rfl, tb1 1 rfl rfl, ⟨by decide +kernel, by decide +kernel⟩, by decide +kernel⟩, tb3 103 rfl rfl, tb3 104 rfl rfl⟩
theorem cl_L_71 : CV RL 71 yX9_undo cX9_undo 1 (some .int) 0 := ⟨⟨tb5 95 rfl rfl, tb5 98 rfl rfl, tb1 14 rfl rfl, ⟨by decide +kernel, by decide +kernel⟩, by decide +kernel⟩, tb5 96 rfl rfl, tb5 97 rfl rfl⟩
theorem cl_L_72 : CV RL 72 yX8_late cX8_late 4 (some .int) 1 := ⟨⟨tb3 111 rfl rfl, tb3 114 rfl rfl, tb1 1 rfl rfl, ⟨by decide +kernel, by decide +kernel⟩, by decide +kernel⟩, tb3 112 rfl rfl, tb3 113 rfl rfl⟩
theorem cl_L_75 : CV RL 75 yX9_late cX9_late 4 (some .int) 1 := ⟨⟨tb5 99 rfl rfl, tb5 102 rfl rfl, tb1 14 rfl rfl, ⟨by decide +kernel, by decide +kernel⟩, by decide +kernel⟩, tb5 100 rfl rfl, tb5 101 rfl rfl⟩
theorem cl_L_76 : CV RL 76 yX8_back cX8_back 7 (some .int) 2 := ⟨⟨tb3 115 rfl rfl, tb3 118 rfl rfl, tb1 1 rfl rfl, ⟨by decide +kernel, by decide +kernel⟩, by decide +kernel⟩, tb3 116 rfl rfl, tb3 117 rfl rfl⟩
theorem cl_L_79 : CV RL 79 yX9_back cX9_back 7 (some .int) 2 := ⟨⟨tb5 107 rfl rfl, tb5 110 rfl rfl, tb1 14 rfl rfl, ⟨by decide +kernel, by decide +kernel⟩, by decide +kernel⟩, tb5 108 rfl rfl, tb5 109 rfl rfl⟩
theorem cl_L_80 : CV RL 80 yX8_twos cX8_twos 3 (some .int) 0 := ⟨⟨tb3 123 rfl rfl, tb3 126 rfl rfl, tb1 1 rfl rfl, ⟨by decide +kernel, by decide +kernel⟩, by decide +kernel⟩, tb3 124 rfl rfl, tb3 125 rfl rfl⟩
theorem cl_L_83 : CV RL 83 yX9_twos cX9_twos 6 (some .int) 0 := ⟨⟨tb5 111 rfl rfl, tb5 114 rfl rfl, tb1 14 rfl rfl, ⟨by decide +kernel, by decide +kernel⟩, by decide +kernel⟩, tb5 112 rfl rfl, tb5 113 rfl rfl⟩
theorem cl_L_84 : CV RL 84 yX8_bridge cX8_bridge 2 (some .int) 1 := ⟨⟨tb3 135 rfl rfl, tb3 138 rfl rfl, tb1 1 rfl rfl, ⟨by decide +kernel, by decide +kernel⟩, by decide +kernel⟩, tb3 136 rfl rfl, tb3 137 rfl rfl⟩
theorem cl_L_87 : CV RL 87 yX9_bridge cX9_bridge 6 (some .int) 1 := ⟨⟨tb5 115 rfl rfl, tb5 118 rfl rfl, tb1 14 rfl rfl, ⟨by decide +kernel, by decide +kernel⟩, by decide +kernel⟩, tb5 116 rfl rfl, tb5 117 rfl rfl⟩
theorem cl_L_88 : CV RL 88 yX8_calm cX8_calm 6 (some .int) 1 := ⟨⟨tb3 167 rfl rfl, tb3 170 rfl rfl, tb1 1 rfl rfl, ⟨by decide +kernel, by decide +kernel⟩, by decide +kernel⟩, tb3 168 rfl rfl, tb3 169 rfl rfl⟩
theorem cl_L_91 : CV RL 91 yX9_calm cX9_calm 8 (some .int) 1 := ⟨⟨tb5 123 rfl rfl, tb5 126 rfl rfl, tb1 14 rfl rfl, ⟨by decide +kernel, by decide +kernel⟩, by decide +kernel⟩, tb5 124 rfl rfl, tb5 125 rfl rfl⟩
theorem cl_L_92 : CV RL 92 yX8_order cX8_order 2 (some .int) 1 := ⟨⟨tb3 178 rfl rfl, tb3 181 rfl rfl, tb1 1 rfl rfl, ⟨by decide +kernel, by decide +kernel⟩, by decide +kernel⟩, tb3 179 rfl rfl, tb3 180 rfl rfl⟩
theorem cl_L_95 : CV RL 95 yX9_order cX9_order 5 (some .int) 1 := ⟨⟨tb5 130 rfl rfl, tb5 133 rfl rfl, tb1 14 rfl rfl, ⟨by decide +kernel, by decide +kernel⟩, by decide +kernel⟩, tb5 131 rfl rfl, tb5 132 rfl rfl⟩
theorem cl_L_96 : CV RL 96 yX8_harvest cX8_harvest 4 (some .int) 1 := ⟨⟨tb3 206 rfl rfl, tb3 209 rfl rfl, tb1 1 rfl rfl, ⟨by decide +kernel, by decide +kernel⟩, by decide +kernel⟩, tb3 207 rfl rfl, tb3 208 rfl rfl⟩
theorem cl_L_99 : CV RL 99 yX9_harvest cX9_harvest 4 (some .int) 1 := ⟨⟨tb5 138 rfl rfl, tb5 141 rfl rfl, tb1 14 rfl rfl, ⟨by decide +kernel, by decide +kernel⟩, by decide +kernel⟩, tb5 139 rfl rfl, tb5 140 rfl rfl⟩
theorem cl_L_100 : CV RL 100 yX8_odds cX8_odds 8 (some .int) 4 := ⟨⟨tb3 210 rfl rfl, tb3 213 rfl rfl, tb1 1 rfl rfl, ⟨by decide +kernel, by decide +kernel⟩, by decide +kernel⟩, tb3 211 rfl rfl, tb3 212 rfl rfl⟩
theorem cl_L_104 : CV RL 104 yX9_odds cX9_odds 10 (some .int) 4 := ⟨⟨tb5 142 rfl rfl, tb5 145 rfl rfl, tb1 14 rfl rfl, ⟨by decide +kernel, by decide +kernel⟩, by decide +kernel⟩, tb5 143 rfl rfl, tb5 144 rfl rfl⟩
theorem cl_L_105 : CV RL 105 yX8_seen cX8_seen 3 (some .int) 2 := ⟨⟨tb3 221 rfl rfl, tb3 224 rfl rfl, tb1 1 rfl rfl, ⟨by decide +kernel, by decide +kernel⟩, by decide +kernel⟩, tb3 222 rfl rfl, tb3 223 rfl rfl⟩
theorem cl_L_108 : CV RL 108 yX9_seen cX9_seen 3 (some .int) 2 := ⟨⟨tb5 146 rfl rfl, tb5 149 rfl rfl, tb1 14 rfl rfl, ⟨by decide +kernel, by decide +kernel⟩, by decide +kernel⟩, tb5 147 rfl rfl, tb5 148 rfl rfl⟩
theorem cl_L_109 : CV RL 109 yX8_forget cX8_forget 2 (some .int) 0 := ⟨⟨tb3 229 rfl rfl, tb3 232 rfl rfl, tb1 1 rfl rfl, ⟨by decide +kernel, by decide +kernel⟩, by decide +kernel⟩, tb3 230 rfl rfl, tb3 231 rfl rfl⟩
theorem cl_L_112 : CV RL 112 yX9_forget cX9_forget 2 (some .int) 0 := ⟨⟨tb5 150 rfl rfl, tb5 153 rfl rfl, tb1 14 rfl rfl, ⟨by decide +kernel, by decide +kernel⟩, by decide +kernel⟩, tb5 151 rfl rfl, tb5 152 rfl rfl⟩
theorem cl_L_113 : CV RL 113 yX8_rides cX8_rides 6 (some .int) 1 := ⟨⟨tb3 233 rfl rfl, tb3 236 rfl rfl, tb1 1 rfl rfl, ⟨by decide +kernel, by decide +kernel⟩, by decide +kernel⟩, tb3 234 rfl rfl, tb3 235 rfl rfl⟩
theorem cl_L_116 : CV RL 116 yX9_rides cX9_rides 8 (some .int) 1 := ⟨⟨tb5 154 rfl rfl, tb5 157 rfl rfl, tb1 14 rfl rfl, ⟨by decide +kernel, by decide +kernel⟩, by decide +kernel⟩, tb5 155 rfl rfl, tb5 156 rfl rfl⟩
theorem cl_L_117 : CV RL 117 yX8_river cX8_river 3 (some .int) 2 := ⟨⟨tb4 9 rfl rfl, tb4 12 rfl rfl, tb1 1 rfl rfl, ⟨by decide +kernel, by decide +kernel⟩, by decide +kernel⟩, tb4 10 rfl rfl, tb4 11 rfl rfl⟩
theorem cl_L_120 : CV RL 120 yX9_river cX9_river 5 (some .int) 2 := ⟨⟨tb5 162 rfl rfl, tb5 165 rfl rfl, tb1 14 rfl rfl, ⟨by decide +kernel, by decide +kernel⟩, by decide +kernel⟩, tb5 163 rfl rfl, tb5 164 rfl rfl⟩
theorem cl_L_121 : CV RL 121 yX8_keep cX8_keep 1 (some .int) 0 := ⟨⟨tb4 25 rfl rfl, tb4 28 rfl rfl, tb1 1 rfl rfl, ⟨by decide +kernel, by decide +kernel⟩, by decide +kernel⟩, tb4 26 rfl rfl, tb4 27 rfl rfl⟩
theorem cl_L_124 : CV RL 124 yX9_keep cX9_keep 1 (some .int) 0 := ⟨⟨tb5 166 rfl rfl, tb5 169 rfl rfl, tb1 14 rfl rfl, ⟨by decide +kernel, by decide +kernel⟩, by decide +kernel⟩, tb5 167 rfl rfl, tb5 168 rfl rfl⟩
theorem cl_L_125 : CV RL 125 yX8_restore cX8_restore 1 (some .int) 0 := ⟨⟨tb4 34 rfl rfl, tb4 37 rfl rfl, tb1 1 rfl rfl, ⟨by decide +kernel, by decide +kernel⟩, by decide +kernel⟩, tb4 35 rfl rfl, tb4 36 rfl rfl⟩
theorem cl_L_128 : CV RL 128 yX9_restore cX9_restore 1 (some .int) 0 := ⟨⟨tb5 170 rfl rfl, tb5 173 rfl rfl, tb1 14 rfl rfl, ⟨by decide +kernel, by decide +kernel⟩, by decide +kernel⟩, tb5 171 rfl rfl, tb5 172 rfl rfl⟩
theorem cl_L_129 : CV RL 129 yX8_count cX8_count 2 (some .int) 1 := ⟨⟨tb4 42 rfl rfl, tb4 45 rfl rfl, tb1 1 rfl rfl, ⟨by decide +kernel, by decide +kernel⟩, by decide +kernel⟩, tb4 43 rfl rfl, tb4 44 rfl rfl⟩
theorem cl_L_132 : CV RL 132 yX9_count cX9_count 4 (some .int) 1 := ⟨⟨tb5 174 rfl rfl, tb5 177 rfl rfl, tb1 14 rfl rfl, ⟨by decide +kernel, by decide +kernel⟩, by decide +kernel⟩, tb5 175 rfl rfl, tb5 176 rfl rfl⟩
theorem cl_X9_86 : CV RX9 86 yX9_firstBeast cX9_firstBeast 6 none 5 := ⟨⟨tb4 56 rfl rfl, tb4 59 rfl rfl, tb1 14 rfl rfl, ⟨by decide +kernel, by decide +kernel⟩, by decide +kernel⟩, tb4 58 rfl rfl, tb0 23 rfl rfl⟩
theorem cl_X9_90 : CV RX9 90 yX9_anew cX9_anew 2 none 0 := ⟨⟨tb4 60 rfl rfl, tb4 63 rfl rfl, tb1 14 rfl rfl, ⟨by decide +kernel, by decide +kernel⟩, by decide +kernel⟩, tb4 62 rfl rfl, tb0 24 rfl rfl⟩
theorem cl_X9_93 : CS RX9 93 yX9_in cX9_in 3 (some .boolean) 3 := ⟨⟨tb4 171 rfl rfl, tb4 173 rfl rfl, tb1 14 rfl rfl, ⟨by decide +kernel, by decide +kernel⟩, by decide +kernel⟩, tb4 172 rfl rfl⟩
theorem cl_X9_104 : CV RX9 104 yX9_here cX9_here 1 (some .int) 0 := ⟨⟨tb4 186 rfl rfl, tb4 189 rfl rfl, tb1 14 rfl rfl, ⟨by decide +kernel, by decide +kernel⟩, by decide +kernel⟩, tb4 188 rfl rfl, tb0 26 rfl rfl⟩
theorem cl_X9_112 : CV RX9 112 yX9_number cX9_number 6 (some .int) 3 := ⟨⟨tb4 194 rfl rfl, tb4 197 rfl rfl, tb1 14 rfl rfl, ⟨by decide +kernel, by decide +kernel⟩, by decide +kernel⟩, tb4 196 rfl rfl, tb0 28 rfl rfl⟩
theorem cl_X9_116 : CV RX9 116 yX9_told cX9_told 2 (some .int) 1 := ⟨⟨tb4 202 rfl rfl, tb4 205 rfl rfl, tb1 14 rfl rfl, ⟨by decide +kernel, by decide +kernel⟩, by decide +kernel⟩, tb4 204 rfl rfl, tb0 30 rfl rfl⟩
theorem cl_X9_120 : CV RX9 120 yX9_readBeast cX9_readBeast 6 none 0 := ⟨⟨tb4 190 rfl rfl, tb4 193 rfl rfl, tb1 14 rfl rfl, ⟨by decide +kernel, by decide +kernel⟩, by decide +kernel⟩, tb4 192 rfl rfl, tb0 27 rfl rfl⟩
theorem cl_X9_123 : CV RX9 123 yX9_readCurrent cX9_readCurrent 3 none 0 := ⟨⟨tb4 198 rfl rfl, tb4 201 rfl rfl, tb1 14 rfl rfl, ⟨by decide +kernel, by decide +kernel⟩, by decide +kernel⟩, tb4 200 rfl rfl, tb0 29 rfl rfl⟩
theorem cl_X9_126 : CV RX9 126 yX9_readRaft cX9_readRaft 4 none 0 := ⟨⟨tb4 206 rfl rfl, tb4 209 rfl rfl, tb1 14 rfl rfl, ⟨by decide +kernel, by decide +kernel⟩, by decide +kernel⟩, tb4 208 rfl rfl, tb0 31 rfl rfl⟩
theorem cl_X9_129 : CV RX9 129 yX9_readItem cX9_readItem 4 none 0 := ⟨⟨tb4 182 rfl rfl, tb4 185 rfl rfl, tb1 14 rfl rfl, ⟨by decide +kernel, by decide +kernel⟩, by decide +kernel⟩, tb4 184 rfl rfl, tb0 25 rfl rfl⟩
theorem cl_X9_132 : CV RX9 132 yX9_isInRaft cX9_isInRaft 5 (some .boolean) 2 := ⟨⟨tb4 219 rfl rfl, tb4 222 rfl rfl, tb1 14 rfl rfl, ⟨by decide +kernel, by decide +kernel⟩, by decide +kernel⟩, tb4 221 rfl rfl, tb0 33 rfl rfl⟩
theorem cl_X9_136 : CV RX9 136 yX9_fault cX9_fault 2 (some .int) 0 := ⟨⟨tb4 214 rfl rfl, tb4 181 rfl rfl, tb1 14 rfl rfl, ⟨by decide +kernel, by decide +kernel⟩, by decide +kernel⟩, tb4 179 rfl rfl, tb4 180 rfl rfl⟩
theorem cl_X9_139 : CV RX9 139 yX9_canBeLaid cX9_canBeLaid 4 (some .boolean) 0 := ⟨⟨tb4 215 rfl rfl, tb4 218 rfl rfl, tb1 14 rfl rfl, ⟨by decide +kernel, by decide +kernel⟩, by decide +kernel⟩, tb4 217 rfl rfl, tb0 32 rfl rfl⟩
theorem cl_X9_152 : CV RX9 152 yX9_isBeast cX9_isBeast 2 (some .boolean) 1 := ⟨⟨tb4 227 rfl rfl, tb4 230 rfl rfl, tb1 14 rfl rfl, ⟨by decide +kernel, by decide +kernel⟩, by decide +kernel⟩, tb4 229 rfl rfl, tb0 34 rfl rfl⟩
theorem cl_X9_156 : CV RX9 156 yX9_raftOf cX9_raftOf 3 (some .int) 1 := ⟨⟨tb4 231 rfl rfl, tb4 234 rfl rfl, tb1 14 rfl rfl, ⟨by decide +kernel, by decide +kernel⟩, by decide +kernel⟩, tb4 233 rfl rfl, tb0 35 rfl rfl⟩
theorem cl_X9_159 : CV RX9 159 yX9_ahead cX9_ahead 5 (some .int) 1 := ⟨⟨tb4 235 rfl rfl, tb4 238 rfl rfl, tb1 14 rfl rfl, ⟨by decide +kernel, by decide +kernel⟩, by decide +kernel⟩, tb4 237 rfl rfl, tb0 36 rfl rfl⟩
theorem cl_X9_162 : CV RX9 162 yX9_currentIn cX9_currentIn 5 (some .int) 1 := ⟨⟨tb5 3 rfl rfl, tb5 6 rfl rfl, tb1 14 rfl rfl, ⟨by decide +kernel, by decide +kernel⟩, by decide +kernel⟩, tb5 5 rfl rfl, tb0 37 rfl rfl⟩
theorem cl_X9_176 : CV RX9 176 yX9_takesIn cX9_takesIn 4 (some .int) 1 := ⟨⟨tb5 19 rfl rfl, tb5 22 rfl rfl, tb1 14 rfl rfl, ⟨by decide +kernel, by decide +kernel⟩, by decide +kernel⟩, tb5 21 rfl rfl, tb0 40 rfl rfl⟩
theorem cl_X9_179 : CV RX9 179 yX9_hasHelp cX9_hasHelp 5 (some .boolean) 2 := ⟨⟨tb5 27 rfl rfl, tb5 30 rfl rfl, tb1 14 rfl rfl, ⟨by decide +kernel, by decide +kernel⟩, by decide +kernel⟩, tb5 29 rfl rfl, tb0 41 rfl rfl⟩
theorem cl_X9_185 : CV RX9 185 yX9_strokeOf cX9_strokeOf 11 (some .int) 5 := ⟨⟨tb5 31 rfl rfl, tb5 34 rfl rfl, tb1 14 rfl rfl, ⟨by decide +kernel, by decide +kernel⟩, by decide +kernel⟩, tb5 33 rfl rfl, tb0 42 rfl rfl⟩
theorem cl_X9_189 : CV RX9 189 yX9_raftStroke cX9_raftStroke 7 (some .int) 4 := ⟨⟨tb5 35 rfl rfl, tb5 38 rfl rfl, tb1 14 rfl rfl, ⟨by decide +kernel, by decide +kernel⟩, by decide +kernel⟩, tb5 37 rfl rfl, tb0 43 rfl rfl⟩
theorem cl_X9_196 : CV RX9 196 yX9_plain cX9_plain 1 none 0 := ⟨⟨tb5 11 rfl rfl, tb5 14 rfl rfl, tb1 14 rfl rfl, ⟨by decide +kernel, by decide +kernel⟩, by decide +kernel⟩, tb5 13 rfl rfl, tb0 38 rfl rfl⟩
theorem cl_X9_199 : CV RX9 199 yX9_cross cX9_cross 9 none 2 := ⟨⟨tb5 15 rfl rfl, tb5 18 rfl rfl, tb1 14 rfl rfl, ⟨by decide +kernel, by decide +kernel⟩, by decide +kernel⟩, tb5 17 rfl rfl, tb0 39 rfl rfl⟩
theorem cl_X9_203 : CV RX9 203 yX9_crossNow cX9_crossNow 1 none 0 := ⟨⟨tb5 43 rfl rfl, tb5 46 rfl rfl, tb1 14 rfl rfl, ⟨by decide +kernel, by decide +kernel⟩, by decide +kernel⟩, tb5 45 rfl rfl, tb0 44 rfl rfl⟩
theorem cl_X9_206 : CV RX9 206 yX9_rankedWith cX9_rankedWith 3 (some .int) 2 := ⟨⟨tb5 59 rfl rfl, tb5 62 rfl rfl, tb1 14 rfl rfl, ⟨by decide +kernel, by decide +kernel⟩, by decide +kernel⟩, tb5 61 rfl rfl, tb0 47 rfl rfl⟩
theorem cl_X9_210 : CV RX9 210 yX9_isAhead cX9_isAhead 8 (some .boolean) 3 := ⟨⟨tb5 55 rfl rfl, tb5 58 rfl rfl, tb1 14 rfl rfl, ⟨by decide +kernel, by decide +kernel⟩, by decide +kernel⟩, tb5 57 rfl rfl, tb0 46 rfl rfl⟩
theorem cl_X9_213 : CV RX9 213 yX9_rankOf cX9_rankOf 5 (some .int) 2 := ⟨⟨tb5 51 rfl rfl, tb5 54 rfl rfl, tb1 14 rfl rfl, ⟨by decide +kernel, by decide +kernel⟩, by decide +kernel⟩, tb5 53 rfl rfl, tb0 45 rfl rfl⟩
theorem cl_X9_216 : CV RX9 216 yX9_findRanks cX9_findRanks 3 none 1 := ⟨⟨tb5 67 rfl rfl, tb5 70 rfl rfl, tb1 14 rfl rfl, ⟨by decide +kernel, by decide +kernel⟩, by decide +kernel⟩, tb5 69 rfl rfl, tb0 48 rfl rfl⟩
theorem cl_X9_220 : CV RX9 220 yX9_copy cX9_copy 4 none 2 := ⟨⟨tb5 79 rfl rfl, tb5 82 rfl rfl, tb1 14 rfl rfl, ⟨by decide +kernel, by decide +kernel⟩, by decide +kernel⟩, tb5 81 rfl rfl, tb0 50 rfl rfl⟩
theorem cl_X9_223 : CV RX9 223 yX9_know cX9_know 2 none 0 := ⟨⟨tb5 75 rfl rfl, tb5 78 rfl rfl, tb1 14 rfl rfl, ⟨by decide +kernel, by decide +kernel⟩, by decide +kernel⟩, tb5 77 rfl rfl, tb0 49 rfl rfl⟩
theorem cl_X9_226 : CV RX9 226 yX9_hasRider cX9_hasRider 4 (some .boolean) 1 := ⟨⟨tb5 87 rfl rfl, tb5 90 rfl rfl, tb1 14 rfl rfl, ⟨by decide +kernel, by decide +kernel⟩, by decide +kernel⟩, tb5 89 rfl rfl, tb0 51 rfl rfl⟩
theorem cl_X9_229 : CV RX9 229 yX9_rankTried cX9_rankTried 2 (some .int) 1 := ⟨⟨tb5 103 rfl rfl, tb5 106 rfl rfl, tb1 14 rfl rfl, ⟨by decide +kernel, by decide +kernel⟩, by decide +kernel⟩, tb5 105 rfl rfl, tb0 52 rfl rfl⟩
theorem cl_X9_232 : CV RX9 232 yX9_firstOne cX9_firstOne 2 (some .int) 1 := ⟨⟨tb5 119 rfl rfl, tb5 122 rfl rfl, tb1 14 rfl rfl, ⟨by decide +kernel, by decide +kernel⟩, by decide +kernel⟩, tb5 121 rfl rfl, tb0 53 rfl rfl⟩
theorem cl_X9_235 : CS RX9 235 yX9_off cX9_off 2 (some .int) 2 := ⟨⟨tb5 127 rfl rfl, tb5 129 rfl rfl, tb1 14 rfl rfl, ⟨by decide +kernel, by decide +kernel⟩, by decide +kernel⟩, tb5 128 rfl rfl⟩
theorem cl_X9_238 : CV RX9 238 yX9_findOrder cX9_findOrder 7 none 0 := ⟨⟨tb5 134 rfl rfl, tb5 137 rfl rfl, tb1 14 rfl rfl, ⟨by decide +kernel, by decide +kernel⟩, by decide +kernel⟩, tb5 136 rfl rfl, tb0 54 rfl rfl⟩
theorem cl_X9_241 : CV RX9 241 yX9_fits cX9_fits 5 (some .boolean) 2 := ⟨⟨tb5 158 rfl rfl, tb5 161 rfl rfl, tb1 14 rfl rfl, ⟨by decide +kernel, by decide +kernel⟩, by decide +kernel⟩, tb5 160 rfl rfl, tb0 55 rfl rfl⟩
theorem cn_within : CN yX8_within cX8_within 3 (some .boolean) 3 := ⟨tb1 204 rfl rfl, tb1 1 rfl rfl, ⟨by decide +kernel, by decide +kernel⟩, by decide +kernel, tb1 203 rfl rfl⟩
theorem kc_X2_27 : Cond.constant RX2 27 (2147483647) ∈ TB := tb3 192 rfl rfl
theorem kc_J6_265 : Cond.constant RJ6 265 (1431655765) ∈ TB := tb3 189 rfl rfl
theorem kc_J6_266 : Cond.constant RJ6 266 (858993459) ∈ TB := tb3 190 rfl rfl
theorem kc_J6_267 : Cond.constant RJ6 267 (252645135) ∈ TB := tb3 191 rfl rfl
theorem kl_X4_56 : Cond.constantLong RX4 56 (7919) ∈ TB := tb4 17 rfl rfl
theorem kl_X4_58 : Cond.constantLong RX4 58 (6151) ∈ TB := tb4 18 rfl rfl
theorem kl_X4_60 : Cond.constantLong RX4 60 (65521) ∈ TB := tb4 19 rfl rfl
theorem kl_X4_62 : Cond.constantLong RX4 62 (6) ∈ TB := tb4 20 rfl rfl
theorem kl_X9_168 : Cond.constantLong RX9 168 (7919) ∈ TB := tb5 23 rfl rfl
theorem kl_X9_170 : Cond.constantLong RX9 170 (6151) ∈ TB := tb5 24 rfl rfl
theorem kl_X9_172 : Cond.constantLong RX9 172 (65521) ∈ TB := tb5 25 rfl rfl
theorem kl_X9_174 : Cond.constantLong RX9 174 (6) ∈ TB := tb5 26 rfl rfl
theorem vc_0 : vwCl[0]? = some (RX0, TX0, 2) := rfl
theorem vc_1 : vwCl[1]? = some (RX1, TX1, 4) := rfl
theorem vc_2 : vwCl[2]? = some (RX2, TX2, 1) := rfl
theorem vc_3 : vwCl[3]? = some (RX3, TX3, 3) := rfl
theorem vc_4 : vwCl[4]? = some (RX4, TX4, 15) := rfl
theorem vc_5 : vwCl[5]? = some (RX5, TX5, 2) := rfl
theorem vc_6 : vwCl[6]? = some (RX6, TX6, 18) := rfl
theorem vc_7 : vwCl[7]? = some (RX7, TX7, 3) := rfl
theorem vc_8 : vwCl[8]? = some (RX8, TX8, 11) := rfl
theorem vc_9 : vwCl[9]? = some (RX9, TX9, 34) := rfl
theorem nb_m4 : (Int8.ofInt (-4)).toInt32 = (-4 : Int32) := by decide +kernel
theorem nb_m3 : (Int8.ofInt (-3)).toInt32 = (-3 : Int32) := by decide +kernel
theorem nb_m2 : (Int8.ofInt (-2)).toInt32 = (-2 : Int32) := by decide +kernel
theorem nb_6 : (Int8.ofInt 6).toInt32 = (6 : Int32) := by decide +kernel
theorem nb_7 : (Int8.ofInt 7).toInt32 = (7 : Int32) := by decide +kernel
theorem nb_8 : (Int8.ofInt 8).toInt32 = (8 : Int32) := by decide +kernel
theorem nb_9 : (Int8.ofInt 9).toInt32 = (9 : Int32) := by decide +kernel
theorem nb_10 : (Int8.ofInt 10).toInt32 = (10 : Int32) := by decide +kernel
theorem nb_12 : (Int8.ofInt 12).toInt32 = (12 : Int32) := by decide +kernel
theorem nb_16 : (Int8.ofInt 16).toInt32 = (16 : Int32) := by decide +kernel
theorem nb_30 : (Int8.ofInt 30).toInt32 = (30 : Int32) := by decide +kernel
theorem nb_31 : (Int8.ofInt 31).toInt32 = (31 : Int32) := by decide +kernel
theorem nb_32 : (Int8.ofInt 32).toInt32 = (32 : Int32) := by decide +kernel
theorem nb_40 : (Int8.ofInt 40).toInt32 = (40 : Int32) := by decide +kernel
theorem nb_44 : (Int8.ofInt 44).toInt32 = (44 : Int32) := by decide +kernel
theorem nb_48 : (Int8.ofInt 48).toInt32 = (48 : Int32) := by decide +kernel
theorem nb_57 : (Int8.ofInt 57).toInt32 = (57 : Int32) := by decide +kernel
theorem nb_59 : (Int8.ofInt 59).toInt32 = (59 : Int32) := by decide +kernel
theorem nb_63 : (Int8.ofInt 63).toInt32 = (63 : Int32) := by decide +kernel
theorem nb_64 : (Int8.ofInt 64).toInt32 = (64 : Int32) := by decide +kernel
theorem nb_99 : (Int8.ofInt 99).toInt32 = (99 : Int32) := by decide +kernel
theorem nb_100 : (Int8.ofInt 100).toInt32 = (100 : Int32) := by decide +kernel
theorem nb_112 : (Int8.ofInt 112).toInt32 = (112 : Int32) := by decide +kernel
theorem nb_126 : (Int8.ofInt 126).toInt32 = (126 : Int32) := by decide +kernel
theorem nc_m1 : Int32.ofInt (-1) = (-1 : Int32) := by decide +kernel
theorem nc_0 : Int32.ofInt 0 = (0 : Int32) := by decide +kernel
theorem nc_1 : Int32.ofInt 1 = (1 : Int32) := by decide +kernel
theorem nc_2 : Int32.ofInt 2 = (2 : Int32) := by decide +kernel
theorem nc_3 : Int32.ofInt 3 = (3 : Int32) := by decide +kernel
theorem nc_4 : Int32.ofInt 4 = (4 : Int32) := by decide +kernel
theorem nc_5 : Int32.ofInt 5 = (5 : Int32) := by decide +kernel
theorem ns_144 : (Int16.ofInt 144).toInt32 = (144 : Int32) := by decide +kernel
theorem ns_176 : (Int16.ofInt 176).toInt32 = (176 : Int32) := by decide +kernel
theorem ns_184 : (Int16.ofInt 184).toInt32 = (184 : Int32) := by decide +kernel
theorem ns_192 : (Int16.ofInt 192).toInt32 = (192 : Int32) := by decide +kernel
theorem ns_200 : (Int16.ofInt 200).toInt32 = (200 : Int32) := by decide +kernel
theorem ns_201 : (Int16.ofInt 201).toInt32 = (201 : Int32) := by decide +kernel
theorem ns_255 : (Int16.ofInt 255).toInt32 = (255 : Int32) := by decide +kernel
theorem ns_256 : (Int16.ofInt 256).toInt32 = (256 : Int32) := by decide +kernel
theorem ns_999 : (Int16.ofInt 999).toInt32 = (999 : Int32) := by decide +kernel
theorem ns_9999 : (Int16.ofInt 9999).toInt32 = (9999 : Int32) := by decide +kernel
theorem ni_m1 (x : Int32) : x + Int32.ofInt (-1) = x - 1 := by rw [show Int32.ofInt (-1) = (-1 : Int32) by decide +kernel, Int32.sub_eq_add_neg]
theorem ni_1 (x : Int32) : x + Int32.ofInt 1 = x + 1 := by rw [show Int32.ofInt 1 = (1 : Int32) by decide +kernel]
theorem ni_5 (x : Int32) : x + Int32.ofInt 5 = x + 5 := by rw [show Int32.ofInt 5 = (5 : Int32) by decide +kernel]
theorem na0 {N : Nat} (h : 16 ≤ N) : 0 < N := by omega
theorem na1 {N : Nat} (h : 16 ≤ N) : 1 < N := by omega
theorem na2 {N : Nat} (h : 16 ≤ N) : 2 < N := by omega
theorem na3 {N : Nat} (h : 16 ≤ N) : 3 < N := by omega
theorem na4 {N : Nat} (h : 16 ≤ N) : 4 < N := by omega
theorem na5 {N : Nat} (h : 16 ≤ N) : 5 < N := by omega
theorem na6 {N : Nat} (h : 16 ≤ N) : 6 < N := by omega
theorem na7 {N : Nat} (h : 16 ≤ N) : 7 < N := by omega
theorem na8 {N : Nat} (h : 16 ≤ N) : 8 < N := by omega
theorem na9 {N : Nat} (h : 16 ≤ N) : 9 < N := by omega
theorem na10 {N : Nat} (h : 16 ≤ N) : 10 < N := by omega
theorem na11 {N : Nat} (h : 16 ≤ N) : 11 < N := by omega
theorem na12 {N : Nat} (h : 16 ≤ N) : 12 < N := by omega
theorem na13 {N : Nat} (h : 16 ≤ N) : 13 < N := by omega
theorem na14 {N : Nat} (h : 16 ≤ N) : 14 < N := by omega
theorem na15 {N : Nat} (h : 16 ≤ N) : 15 < N := by omega
theorem nb0 {N : Nat} (h : 52 ≤ N) : 0 < N := by omega
theorem nb1 {N : Nat} (h : 52 ≤ N) : 1 < N := by omega
theorem nb2 {N : Nat} (h : 52 ≤ N) : 2 < N := by omega
theorem nb3 {N : Nat} (h : 52 ≤ N) : 3 < N := by omega
theorem nb4 {N : Nat} (h : 52 ≤ N) : 4 < N := by omega
theorem nb5 {N : Nat} (h : 52 ≤ N) : 5 < N := by omega
theorem nb6 {N : Nat} (h : 52 ≤ N) : 6 < N := by omega
theorem nb7 {N : Nat} (h : 52 ≤ N) : 7 < N := by omega
theorem nb8 {N : Nat} (h : 52 ≤ N) : 8 < N := by omega
theorem nb9 {N : Nat} (h : 52 ≤ N) : 9 < N := by omega
theorem nb10 {N : Nat} (h : 52 ≤ N) : 10 < N := by omega
theorem nb11 {N : Nat} (h : 52 ≤ N) : 11 < N := by omega
theorem nb12 {N : Nat} (h : 52 ≤ N) : 12 < N := by omega
theorem nb13 {N : Nat} (h : 52 ≤ N) : 13 < N := by omega
theorem nb14 {N : Nat} (h : 52 ≤ N) : 14 < N := by omega
theorem nb15 {N : Nat} (h : 52 ≤ N) : 15 < N := by omega
theorem nb16 {N : Nat} (h : 52 ≤ N) : 16 < N := by omega
theorem nb17 {N : Nat} (h : 52 ≤ N) : 17 < N := by omega
theorem nb18 {N : Nat} (h : 52 ≤ N) : 18 < N := by omega
theorem nb19 {N : Nat} (h : 52 ≤ N) : 19 < N := by omega
theorem nb20 {N : Nat} (h : 52 ≤ N) : 20 < N := by omega
theorem nb21 {N : Nat} (h : 52 ≤ N) : 21 < N := by omega
theorem nb22 {N : Nat} (h : 52 ≤ N) : 22 < N := by omega
theorem nb23 {N : Nat} (h : 52 ≤ N) : 23 < N := by omega
theorem nb24 {N : Nat} (h : 52 ≤ N) : 24 < N := by omega
theorem nb25 {N : Nat} (h : 52 ≤ N) : 25 < N := by omega
theorem nb26 {N : Nat} (h : 52 ≤ N) : 26 < N := by omega
theorem nb27 {N : Nat} (h : 52 ≤ N) : 27 < N := by omega
theorem nb28 {N : Nat} (h : 52 ≤ N) : 28 < N := by omega
theorem nb29 {N : Nat} (h : 52 ≤ N) : 29 < N := by omega
theorem nb30 {N : Nat} (h : 52 ≤ N) : 30 < N := by omega
theorem nb31 {N : Nat} (h : 52 ≤ N) : 31 < N := by omega
theorem nb32 {N : Nat} (h : 52 ≤ N) : 32 < N := by omega
theorem nb33 {N : Nat} (h : 52 ≤ N) : 33 < N := by omega
theorem nb34 {N : Nat} (h : 52 ≤ N) : 34 < N := by omega
theorem nb35 {N : Nat} (h : 52 ≤ N) : 35 < N := by omega
theorem nb36 {N : Nat} (h : 52 ≤ N) : 36 < N := by omega
theorem nb37 {N : Nat} (h : 52 ≤ N) : 37 < N := by omega
theorem nb38 {N : Nat} (h : 52 ≤ N) : 38 < N := by omega
theorem nb39 {N : Nat} (h : 52 ≤ N) : 39 < N := by omega
theorem nb40 {N : Nat} (h : 52 ≤ N) : 40 < N := by omega
theorem nb41 {N : Nat} (h : 52 ≤ N) : 41 < N := by omega
theorem nb42 {N : Nat} (h : 52 ≤ N) : 42 < N := by omega
theorem nb43 {N : Nat} (h : 52 ≤ N) : 43 < N := by omega
theorem nb44 {N : Nat} (h : 52 ≤ N) : 44 < N := by omega
theorem nb45 {N : Nat} (h : 52 ≤ N) : 45 < N := by omega
theorem nb46 {N : Nat} (h : 52 ≤ N) : 46 < N := by omega
theorem nb47 {N : Nat} (h : 52 ≤ N) : 47 < N := by omega
theorem nb48 {N : Nat} (h : 52 ≤ N) : 48 < N := by omega
theorem nb49 {N : Nat} (h : 52 ≤ N) : 49 < N := by omega
theorem nb50 {N : Nat} (h : 52 ≤ N) : 50 < N := by omega
theorem nb51 {N : Nat} (h : 52 ≤ N) : 51 < N := by omega
theorem nm0 {N : Nat} (h : 26 ≤ N) : 0 < N := by omega
theorem nm1 {N : Nat} (h : 26 ≤ N) : 1 < N := by omega
theorem nm2 {N : Nat} (h : 26 ≤ N) : 2 < N := by omega
theorem nm3 {N : Nat} (h : 26 ≤ N) : 3 < N := by omega
theorem nm4 {N : Nat} (h : 26 ≤ N) : 4 < N := by omega
theorem nm5 {N : Nat} (h : 26 ≤ N) : 5 < N := by omega
theorem nm6 {N : Nat} (h : 26 ≤ N) : 6 < N := by omega
theorem nm7 {N : Nat} (h : 26 ≤ N) : 7 < N := by omega
theorem nm8 {N : Nat} (h : 26 ≤ N) : 8 < N := by omega
theorem nm9 {N : Nat} (h : 26 ≤ N) : 9 < N := by omega
theorem nm10 {N : Nat} (h : 26 ≤ N) : 10 < N := by omega
theorem nm11 {N : Nat} (h : 26 ≤ N) : 11 < N := by omega
theorem nm12 {N : Nat} (h : 26 ≤ N) : 12 < N := by omega
theorem nm13 {N : Nat} (h : 26 ≤ N) : 13 < N := by omega
theorem nm14 {N : Nat} (h : 26 ≤ N) : 14 < N := by omega
theorem nm15 {N : Nat} (h : 26 ≤ N) : 15 < N := by omega
theorem nm16 {N : Nat} (h : 26 ≤ N) : 16 < N := by omega
theorem nm17 {N : Nat} (h : 26 ≤ N) : 17 < N := by omega
theorem nm18 {N : Nat} (h : 26 ≤ N) : 18 < N := by omega
theorem nm19 {N : Nat} (h : 26 ≤ N) : 19 < N := by omega
theorem nm20 {N : Nat} (h : 26 ≤ N) : 20 < N := by omega
theorem nm21 {N : Nat} (h : 26 ≤ N) : 21 < N := by omega
theorem nm22 {N : Nat} (h : 26 ≤ N) : 22 < N := by omega
theorem nm23 {N : Nat} (h : 26 ≤ N) : 23 < N := by omega
theorem nm24 {N : Nat} (h : 26 ≤ N) : 24 < N := by omega
theorem nm25 {N : Nat} (h : 26 ≤ N) : 25 < N := by omega
theorem nbool {x : Int32} (h : x = 0 ∨ x = 1) : narrow .boolean (.int x) = .int x := by rcases h with rfl | rfl <;> rfl
theorem fbool {x : Int32} (h : x = 0 ∨ x = 1) : fits .boolean (.int x) = true := by rcases h with rfl | rfl <;> rfl
end
section
theorem zz_last : True := trivial
end
