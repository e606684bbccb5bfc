-- ===== PART A: goes FIRST, ahead of the names: the tables' words, and 'selects' of the private methods out of them =====
/-- a private method of a class that the tables say can be made, by its rows of tables_1 -/
def lw_okq (q : MethodName × Nat) : Prop := (q.1.cls ≠ "java/lang/invoke/MethodHandle" ∧ q.1.cls ≠ "java/lang/invoke/VarHandle") ∧ Cond.instantiable q.1.cls q.2 ∈ tables_1 ∧ Cond.privateMethod q.1 ∈ tables_1 ∧ Cond.instanceMethod q.1 ∈ tables_1
theorem lw_p0 : lw_okq (⟨"CrossedFirst$Reader", "readItem", "([CII)Z"⟩, 2) := ⟨⟨by decide +kernel, by decide +kernel⟩, List.mem_of_getElem? (i := 27) (by decide +kernel), List.mem_of_getElem? (i := 192) (by decide +kernel), List.mem_of_getElem? (i := 193) (by decide +kernel)⟩
theorem lw_p1 : lw_okq (⟨"CrossedFirst$Reader", "readNumber", "([CII)Z"⟩, 2) := ⟨⟨by decide +kernel, by decide +kernel⟩, List.mem_of_getElem? (i := 27) (by decide +kernel), List.mem_of_getElem? (i := 199) (by decide +kernel), List.mem_of_getElem? (i := 200) (by decide +kernel)⟩
theorem lw_p2 : lw_okq (⟨"CrossedFirst$Reader", "tell", "(ILCrossedFirst$River;)Z"⟩, 2) := ⟨⟨by decide +kernel, by decide +kernel⟩, List.mem_of_getElem? (i := 27) (by decide +kernel), List.mem_of_getElem? (i := 206) (by decide +kernel), List.mem_of_getElem? (i := 207) (by decide +kernel)⟩
theorem lw_p3 : lw_okq (⟨"CrossedFirst$River", "putOnRaft", "(I)V"⟩, 18) := ⟨⟨by decide +kernel, by decide +kernel⟩, List.mem_of_getElem? (i := 45) (by decide +kernel), List.mem_of_getElem? (i := 235) (by decide +kernel), List.mem_of_getElem? (i := 236) (by decide +kernel)⟩
theorem lw_p4 : lw_okq (⟨"CrossedFirst$River", "takenFrom", "(I)I"⟩, 18) := ⟨⟨by decide +kernel, by decide +kernel⟩, List.mem_of_getElem? (i := 45) (by decide +kernel), List.mem_of_getElem? (i := 256) (by decide +kernel), List.mem_of_getElem? (i := 257) (by decide +kernel)⟩
theorem lw_p5 : lw_okq (⟨"CrossedFirst$Race", "mountBeast", "(I)V"⟩, 15) := ⟨⟨by decide +kernel, by decide +kernel⟩, List.mem_of_getElem? (i := 260) (by decide +kernel), List.mem_of_getElem? (i := 492) (by decide +kernel), List.mem_of_getElem? (i := 493) (by decide +kernel)⟩
theorem lw_p6 : lw_okq (⟨"CrossedFirst$Race", "mountRaft", "(I)V"⟩, 15) := ⟨⟨by decide +kernel, by decide +kernel⟩, List.mem_of_getElem? (i := 260) (by decide +kernel), List.mem_of_getElem? (i := 496) (by decide +kernel), List.mem_of_getElem? (i := 497) (by decide +kernel)⟩
theorem lw_p7 : lw_okq (⟨"CrossedFirst$Race", "earliestHelp", "()I"⟩, 15) := ⟨⟨by decide +kernel, by decide +kernel⟩, List.mem_of_getElem? (i := 260) (by decide +kernel), List.mem_of_getElem? (i := 503) (by decide +kernel), List.mem_of_getElem? (i := 504) (by decide +kernel)⟩
theorem lw_p8 : lw_okq (⟨"CrossedFirst$Race", "takenIn", "(I)I"⟩, 15) := ⟨⟨by decide +kernel, by decide +kernel⟩, List.mem_of_getElem? (i := 260) (by decide +kernel), List.mem_of_getElem? (i := 518) (by decide +kernel), List.mem_of_getElem? (i := 519) (by decide +kernel)⟩
theorem lw_p9 : lw_okq (⟨"CrossedFirst", "raceAsItIs", "()V"⟩, 11) := ⟨⟨by decide +kernel, by decide +kernel⟩, List.mem_of_getElem? (i := 19) (by decide +kernel), List.mem_of_getElem? (i := 532) (by decide +kernel), List.mem_of_getElem? (i := 533) (by decide +kernel)⟩
theorem lw_p10 : lw_okq (⟨"CrossedFirst$Race", "isAhead", "(II)Z"⟩, 15) := ⟨⟨by decide +kernel, by decide +kernel⟩, List.mem_of_getElem? (i := 260) (by decide +kernel), List.mem_of_getElem? (i := 542) (by decide +kernel), List.mem_of_getElem? (i := 543) (by decide +kernel)⟩
theorem lw_p11 : lw_okq (⟨"CrossedFirst$Race", "leader", "(I)I"⟩, 15) := ⟨⟨by decide +kernel, by decide +kernel⟩, List.mem_of_getElem? (i := 260) (by decide +kernel), List.mem_of_getElem? (i := 546) (by decide +kernel), List.mem_of_getElem? (i := 547) (by decide +kernel)⟩
theorem lw_p12 : lw_okq (⟨"CrossedFirst$Changes", "dropOldest", "()V"⟩, 4) := ⟨⟨by decide +kernel, by decide +kernel⟩, List.mem_of_getElem? (i := 322) (by decide +kernel), List.mem_of_getElem? (i := 562) (by decide +kernel), List.mem_of_getElem? (i := 563) (by decide +kernel)⟩
theorem lw_p13 : lw_okq (⟨"CrossedFirst", "changeCarrier", "(II)I"⟩, 11) := ⟨⟨by decide +kernel, by decide +kernel⟩, List.mem_of_getElem? (i := 19) (by decide +kernel), List.mem_of_getElem? (i := 575) (by decide +kernel), List.mem_of_getElem? (i := 576) (by decide +kernel)⟩
theorem lw_p14 : lw_okq (⟨"CrossedFirst", "rankRidingOn", "(II)I"⟩, 11) := ⟨⟨by decide +kernel, by decide +kernel⟩, List.mem_of_getElem? (i := 19) (by decide +kernel), List.mem_of_getElem? (i := 600) (by decide +kernel), List.mem_of_getElem? (i := 601) (by decide +kernel)⟩
theorem lw_p15 : lw_okq (⟨"CrossedFirst", "lightOnes", "(I)I"⟩, 11) := ⟨⟨by decide +kernel, by decide +kernel⟩, List.mem_of_getElem? (i := 19) (by decide +kernel), List.mem_of_getElem? (i := 608) (by decide +kernel), List.mem_of_getElem? (i := 609) (by decide +kernel)⟩
def lw_privs_1 : List (MethodName × Nat) := [(⟨"CrossedFirst$Reader", "readItem", "([CII)Z"⟩, 2), (⟨"CrossedFirst$Reader", "readNumber", "([CII)Z"⟩, 2), (⟨"CrossedFirst$Reader", "tell", "(ILCrossedFirst$River;)Z"⟩, 2), (⟨"CrossedFirst$River", "putOnRaft", "(I)V"⟩, 18), (⟨"CrossedFirst$River", "takenFrom", "(I)I"⟩, 18), (⟨"CrossedFirst$Race", "mountBeast", "(I)V"⟩, 15), (⟨"CrossedFirst$Race", "mountRaft", "(I)V"⟩, 15), (⟨"CrossedFirst$Race", "earliestHelp", "()I"⟩, 15), (⟨"CrossedFirst$Race", "takenIn", "(I)I"⟩, 15), (⟨"CrossedFirst", "raceAsItIs", "()V"⟩, 11), (⟨"CrossedFirst$Race", "isAhead", "(II)Z"⟩, 15), (⟨"CrossedFirst$Race", "leader", "(I)I"⟩, 15), (⟨"CrossedFirst$Changes", "dropOldest", "()V"⟩, 4), (⟨"CrossedFirst", "changeCarrier", "(II)I"⟩, 11), (⟨"CrossedFirst", "rankRidingOn", "(II)I"⟩, 11), (⟨"CrossedFirst", "lightOnes", "(I)I"⟩, 11)]
theorem lw_r1 : ∀ q ∈ lw_privs_1, lw_okq q := List.forall_mem_cons.mpr ⟨lw_p0, List.forall_mem_cons.mpr ⟨lw_p1, List.forall_mem_cons.mpr ⟨lw_p2, List.forall_mem_cons.mpr ⟨lw_p3, List.forall_mem_cons.mpr ⟨lw_p4, List.forall_mem_cons.mpr ⟨lw_p5, List.forall_mem_cons.mpr ⟨lw_p6, List.forall_mem_cons.mpr ⟨lw_p7, List.forall_mem_cons.mpr ⟨lw_p8, List.forall_mem_cons.mpr ⟨lw_p9, List.forall_mem_cons.mpr ⟨lw_p10, List.forall_mem_cons.mpr ⟨lw_p11, List.forall_mem_cons.mpr ⟨lw_p12, List.forall_mem_cons.mpr ⟨lw_p13, List.forall_mem_cons.mpr ⟨lw_p14, List.forall_mem_cons.mpr ⟨lw_p15, fun _ h => absurd h List.not_mem_nil⟩⟩⟩⟩⟩⟩⟩⟩⟩⟩⟩⟩⟩⟩⟩⟩
theorem lw_p16 : lw_okq (⟨"CrossedFirst", "bearersOf", "(I)I"⟩, 11) := ⟨⟨by decide +kernel, by decide +kernel⟩, List.mem_of_getElem? (i := 19) (by decide +kernel), List.mem_of_getElem? (i := 612) (by decide +kernel), List.mem_of_getElem? (i := 613) (by decide +kernel)⟩
theorem lw_p17 : lw_okq (⟨"CrossedFirst$Bridge", "crossWidest", "(LCrossedFirst$Race;LCrossedFirst$River;I)V"⟩, 2) := ⟨⟨by decide +kernel, by decide +kernel⟩, List.mem_of_getElem? (i := 376) (by decide +kernel), List.mem_of_getElem? (i := 624) (by decide +kernel), List.mem_of_getElem? (i := 625) (by decide +kernel)⟩
theorem lw_p18 : lw_okq (⟨"CrossedFirst$Bridge", "offer", "(LCrossedFirst$River;III)V"⟩, 2) := ⟨⟨by decide +kernel, by decide +kernel⟩, List.mem_of_getElem? (i := 376) (by decide +kernel), List.mem_of_getElem? (i := 631) (by decide +kernel), List.mem_of_getElem? (i := 632) (by decide +kernel)⟩
theorem lw_p19 : lw_okq (⟨"CrossedFirst", "wouldRather", "(II)Z"⟩, 11) := ⟨⟨by decide +kernel, by decide +kernel⟩, List.mem_of_getElem? (i := 19) (by decide +kernel), List.mem_of_getElem? (i := 652) (by decide +kernel), List.mem_of_getElem? (i := 653) (by decide +kernel)⟩
theorem lw_p20 : lw_okq (⟨"CrossedFirst$Giving", "lowestFitting", "(LCrossedFirst$River;II)I"⟩, 1) := ⟨⟨by decide +kernel, by decide +kernel⟩, List.mem_of_getElem? (i := 389) (by decide +kernel), List.mem_of_getElem? (i := 682) (by decide +kernel), List.mem_of_getElem? (i := 683) (by decide +kernel)⟩
theorem lw_p21 : lw_okq (⟨"CrossedFirst", "chancesOfFirst", "(III)I"⟩, 11) := ⟨⟨by decide +kernel, by decide +kernel⟩, List.mem_of_getElem? (i := 19) (by decide +kernel), List.mem_of_getElem? (i := 694) (by decide +kernel), List.mem_of_getElem? (i := 695) (by decide +kernel)⟩
theorem lw_p22 : lw_okq (⟨"CrossedFirst", "explains", "(II)Z"⟩, 11) := ⟨⟨by decide +kernel, by decide +kernel⟩, List.mem_of_getElem? (i := 19) (by decide +kernel), List.mem_of_getElem? (i := 721) (by decide +kernel), List.mem_of_getElem? (i := 722) (by decide +kernel)⟩
theorem lw_p23 : lw_okq (⟨"CrossedFirstModel", "firstBeast", "(IIIII)V"⟩, 34) := ⟨⟨by decide +kernel, by decide +kernel⟩, List.mem_of_getElem? (i := 770) (by decide +kernel), List.mem_of_getElem? (i := 776) (by decide +kernel), List.mem_of_getElem? (i := 777) (by decide +kernel)⟩
theorem lw_p24 : lw_okq (⟨"CrossedFirstModel", "anew", "()V"⟩, 34) := ⟨⟨by decide +kernel, by decide +kernel⟩, List.mem_of_getElem? (i := 770) (by decide +kernel), List.mem_of_getElem? (i := 780) (by decide +kernel), List.mem_of_getElem? (i := 781) (by decide +kernel)⟩
theorem lw_p25 : lw_okq (⟨"CrossedFirstModel", "readItem", "()V"⟩, 34) := ⟨⟨by decide +kernel, by decide +kernel⟩, List.mem_of_getElem? (i := 770) (by decide +kernel), List.mem_of_getElem? (i := 902) (by decide +kernel), List.mem_of_getElem? (i := 903) (by decide +kernel)⟩
theorem lw_p26 : lw_okq (⟨"CrossedFirstModel", "here", "()I"⟩, 34) := ⟨⟨by decide +kernel, by decide +kernel⟩, List.mem_of_getElem? (i := 770) (by decide +kernel), List.mem_of_getElem? (i := 906) (by decide +kernel), List.mem_of_getElem? (i := 907) (by decide +kernel)⟩
theorem lw_p27 : lw_okq (⟨"CrossedFirstModel", "readBeast", "()V"⟩, 34) := ⟨⟨by decide +kernel, by decide +kernel⟩, List.mem_of_getElem? (i := 770) (by decide +kernel), List.mem_of_getElem? (i := 910) (by decide +kernel), List.mem_of_getElem? (i := 911) (by decide +kernel)⟩
theorem lw_p28 : lw_okq (⟨"CrossedFirstModel", "number", "(III)I"⟩, 34) := ⟨⟨by decide +kernel, by decide +kernel⟩, List.mem_of_getElem? (i := 770) (by decide +kernel), List.mem_of_getElem? (i := 914) (by decide +kernel), List.mem_of_getElem? (i := 915) (by decide +kernel)⟩
theorem lw_p29 : lw_okq (⟨"CrossedFirstModel", "readCurrent", "()V"⟩, 34) := ⟨⟨by decide +kernel, by decide +kernel⟩, List.mem_of_getElem? (i := 770) (by decide +kernel), List.mem_of_getElem? (i := 918) (by decide +kernel), List.mem_of_getElem? (i := 919) (by decide +kernel)⟩
theorem lw_p30 : lw_okq (⟨"CrossedFirstModel", "told", "(I)I"⟩, 34) := ⟨⟨by decide +kernel, by decide +kernel⟩, List.mem_of_getElem? (i := 770) (by decide +kernel), List.mem_of_getElem? (i := 922) (by decide +kernel), List.mem_of_getElem? (i := 923) (by decide +kernel)⟩
theorem lw_p31 : lw_okq (⟨"CrossedFirstModel", "readRaft", "()V"⟩, 34) := ⟨⟨by decide +kernel, by decide +kernel⟩, List.mem_of_getElem? (i := 770) (by decide +kernel), List.mem_of_getElem? (i := 926) (by decide +kernel), List.mem_of_getElem? (i := 927) (by decide +kernel)⟩
def lw_privs_2 : List (MethodName × Nat) := [(⟨"CrossedFirst", "bearersOf", "(I)I"⟩, 11), (⟨"CrossedFirst$Bridge", "crossWidest", "(LCrossedFirst$Race;LCrossedFirst$River;I)V"⟩, 2), (⟨"CrossedFirst$Bridge", "offer", "(LCrossedFirst$River;III)V"⟩, 2), (⟨"CrossedFirst", "wouldRather", "(II)Z"⟩, 11), (⟨"CrossedFirst$Giving", "lowestFitting", "(LCrossedFirst$River;II)I"⟩, 1), (⟨"CrossedFirst", "chancesOfFirst", "(III)I"⟩, 11), (⟨"CrossedFirst", "explains", "(II)Z"⟩, 11), (⟨"CrossedFirstModel", "firstBeast", "(IIIII)V"⟩, 34), (⟨"CrossedFirstModel", "anew", "()V"⟩, 34), (⟨"CrossedFirstModel", "readItem", "()V"⟩, 34), (⟨"CrossedFirstModel", "here", "()I"⟩, 34), (⟨"CrossedFirstModel", "readBeast", "()V"⟩, 34), (⟨"CrossedFirstModel", "number", "(III)I"⟩, 34), (⟨"CrossedFirstModel", "readCurrent", "()V"⟩, 34), (⟨"CrossedFirstModel", "told", "(I)I"⟩, 34), (⟨"CrossedFirstModel", "readRaft", "()V"⟩, 34)]
theorem lw_r2 : ∀ q ∈ lw_privs_2, lw_okq q := List.forall_mem_cons.mpr ⟨lw_p16, List.forall_mem_cons.mpr ⟨lw_p17, List.forall_mem_cons.mpr ⟨lw_p18, List.forall_mem_cons.mpr ⟨lw_p19, List.forall_mem_cons.mpr ⟨lw_p20, List.forall_mem_cons.mpr ⟨lw_p21, List.forall_mem_cons.mpr ⟨lw_p22, List.forall_mem_cons.mpr ⟨lw_p23, List.forall_mem_cons.mpr ⟨lw_p24, List.forall_mem_cons.mpr ⟨lw_p25, List.forall_mem_cons.mpr ⟨lw_p26, List.forall_mem_cons.mpr ⟨lw_p27, List.forall_mem_cons.mpr ⟨lw_p28, List.forall_mem_cons.mpr ⟨lw_p29, List.forall_mem_cons.mpr ⟨lw_p30, List.forall_mem_cons.mpr ⟨lw_p31, fun _ h => absurd h List.not_mem_nil⟩⟩⟩⟩⟩⟩⟩⟩⟩⟩⟩⟩⟩⟩⟩⟩
theorem lw_p32 : lw_okq (⟨"CrossedFirstModel", "canBeLaid", "()Z"⟩, 34) := ⟨⟨by decide +kernel, by decide +kernel⟩, List.mem_of_getElem? (i := 770) (by decide +kernel), List.mem_of_getElem? (i := 935) (by decide +kernel), List.mem_of_getElem? (i := 936) (by decide +kernel)⟩
theorem lw_p33 : lw_okq (⟨"CrossedFirstModel", "isInRaft", "(II)Z"⟩, 34) := ⟨⟨by decide +kernel, by decide +kernel⟩, List.mem_of_getElem? (i := 770) (by decide +kernel), List.mem_of_getElem? (i := 939) (by decide +kernel), List.mem_of_getElem? (i := 940) (by decide +kernel)⟩
theorem lw_p34 : lw_okq (⟨"CrossedFirstModel", "isBeast", "(I)Z"⟩, 34) := ⟨⟨by decide +kernel, by decide +kernel⟩, List.mem_of_getElem? (i := 770) (by decide +kernel), List.mem_of_getElem? (i := 947) (by decide +kernel), List.mem_of_getElem? (i := 948) (by decide +kernel)⟩
theorem lw_p35 : lw_okq (⟨"CrossedFirstModel", "raftOf", "(I)I"⟩, 34) := ⟨⟨by decide +kernel, by decide +kernel⟩, List.mem_of_getElem? (i := 770) (by decide +kernel), List.mem_of_getElem? (i := 951) (by decide +kernel), List.mem_of_getElem? (i := 952) (by decide +kernel)⟩
theorem lw_p36 : lw_okq (⟨"CrossedFirstModel", "ahead", "(I)I"⟩, 34) := ⟨⟨by decide +kernel, by decide +kernel⟩, List.mem_of_getElem? (i := 770) (by decide +kernel), List.mem_of_getElem? (i := 955) (by decide +kernel), List.mem_of_getElem? (i := 956) (by decide +kernel)⟩
theorem lw_p37 : lw_okq (⟨"CrossedFirstModel", "currentIn", "(I)I"⟩, 34) := ⟨⟨by decide +kernel, by decide +kernel⟩, List.mem_of_getElem? (i := 770) (by decide +kernel), List.mem_of_getElem? (i := 963) (by decide +kernel), List.mem_of_getElem? (i := 964) (by decide +kernel)⟩
theorem lw_p38 : lw_okq (⟨"CrossedFirstModel", "plain", "()V"⟩, 34) := ⟨⟨by decide +kernel, by decide +kernel⟩, List.mem_of_getElem? (i := 770) (by decide +kernel), List.mem_of_getElem? (i := 971) (by decide +kernel), List.mem_of_getElem? (i := 972) (by decide +kernel)⟩
theorem lw_p39 : lw_okq (⟨"CrossedFirstModel", "cross", "(II)V"⟩, 34) := ⟨⟨by decide +kernel, by decide +kernel⟩, List.mem_of_getElem? (i := 770) (by decide +kernel), List.mem_of_getElem? (i := 975) (by decide +kernel), List.mem_of_getElem? (i := 976) (by decide +kernel)⟩
theorem lw_p40 : lw_okq (⟨"CrossedFirstModel", "takesIn", "(I)I"⟩, 34) := ⟨⟨by decide +kernel, by decide +kernel⟩, List.mem_of_getElem? (i := 770) (by decide +kernel), List.mem_of_getElem? (i := 979) (by decide +kernel), List.mem_of_getElem? (i := 980) (by decide +kernel)⟩
theorem lw_p41 : lw_okq (⟨"CrossedFirstModel", "hasHelp", "(II)Z"⟩, 34) := ⟨⟨by decide +kernel, by decide +kernel⟩, List.mem_of_getElem? (i := 770) (by decide +kernel), List.mem_of_getElem? (i := 987) (by decide +kernel), List.mem_of_getElem? (i := 988) (by decide +kernel)⟩
theorem lw_p42 : lw_okq (⟨"CrossedFirstModel", "strokeOf", "(IIIIZ)I"⟩, 34) := ⟨⟨by decide +kernel, by decide +kernel⟩, List.mem_of_getElem? (i := 770) (by decide +kernel), List.mem_of_getElem? (i := 991) (by decide +kernel), List.mem_of_getElem? (i := 992) (by decide +kernel)⟩
theorem lw_p43 : lw_okq (⟨"CrossedFirstModel", "raftStroke", "(IIII)I"⟩, 34) := ⟨⟨by decide +kernel, by decide +kernel⟩, List.mem_of_getElem? (i := 770) (by decide +kernel), List.mem_of_getElem? (i := 995) (by decide +kernel), List.mem_of_getElem? (i := 996) (by decide +kernel)⟩
theorem lw_p44 : lw_okq (⟨"CrossedFirstModel", "crossNow", "()V"⟩, 34) := ⟨⟨by decide +kernel, by decide +kernel⟩, List.mem_of_getElem? (i := 770) (by decide +kernel), List.mem_of_getElem? (i := 1003) (by decide +kernel), List.mem_of_getElem? (i := 1004) (by decide +kernel)⟩
theorem lw_p45 : lw_okq (⟨"CrossedFirstModel", "rankOf", "(II)I"⟩, 34) := ⟨⟨by decide +kernel, by decide +kernel⟩, List.mem_of_getElem? (i := 770) (by decide +kernel), List.mem_of_getElem? (i := 1011) (by decide +kernel), List.mem_of_getElem? (i := 1012) (by decide +kernel)⟩
theorem lw_p46 : lw_okq (⟨"CrossedFirstModel", "isAhead", "(III)Z"⟩, 34) := ⟨⟨by decide +kernel, by decide +kernel⟩, List.mem_of_getElem? (i := 770) (by decide +kernel), List.mem_of_getElem? (i := 1015) (by decide +kernel), List.mem_of_getElem? (i := 1016) (by decide +kernel)⟩
theorem lw_p47 : lw_okq (⟨"CrossedFirstModel", "rankedWith", "(II)I"⟩, 34) := ⟨⟨by decide +kernel, by decide +kernel⟩, List.mem_of_getElem? (i := 770) (by decide +kernel), List.mem_of_getElem? (i := 1019) (by decide +kernel), List.mem_of_getElem? (i := 1020) (by decide +kernel)⟩
def lw_privs_3 : List (MethodName × Nat) := [(⟨"CrossedFirstModel", "canBeLaid", "()Z"⟩, 34), (⟨"CrossedFirstModel", "isInRaft", "(II)Z"⟩, 34), (⟨"CrossedFirstModel", "isBeast", "(I)Z"⟩, 34), (⟨"CrossedFirstModel", "raftOf", "(I)I"⟩, 34), (⟨"CrossedFirstModel", "ahead", "(I)I"⟩, 34), (⟨"CrossedFirstModel", "currentIn", "(I)I"⟩, 34), (⟨"CrossedFirstModel", "plain", "()V"⟩, 34), (⟨"CrossedFirstModel", "cross", "(II)V"⟩, 34), (⟨"CrossedFirstModel", "takesIn", "(I)I"⟩, 34), (⟨"CrossedFirstModel", "hasHelp", "(II)Z"⟩, 34), (⟨"CrossedFirstModel", "strokeOf", "(IIIIZ)I"⟩, 34), (⟨"CrossedFirstModel", "raftStroke", "(IIII)I"⟩, 34), (⟨"CrossedFirstModel", "crossNow", "()V"⟩, 34), (⟨"CrossedFirstModel", "rankOf", "(II)I"⟩, 34), (⟨"CrossedFirstModel", "isAhead", "(III)Z"⟩, 34), (⟨"CrossedFirstModel", "rankedWith", "(II)I"⟩, 34)]
theorem lw_r3 : ∀ q ∈ lw_privs_3, lw_okq q := List.forall_mem_cons.mpr ⟨lw_p32, List.forall_mem_cons.mpr ⟨lw_p33, List.forall_mem_cons.mpr ⟨lw_p34, List.forall_mem_cons.mpr ⟨lw_p35, List.forall_mem_cons.mpr ⟨lw_p36, List.forall_mem_cons.mpr ⟨lw_p37, List.forall_mem_cons.mpr ⟨lw_p38, List.forall_mem_cons.mpr ⟨lw_p39, List.forall_mem_cons.mpr ⟨lw_p40, List.forall_mem_cons.mpr ⟨lw_p41, List.forall_mem_cons.mpr ⟨lw_p42, List.forall_mem_cons.mpr ⟨lw_p43, List.forall_mem_cons.mpr ⟨lw_p44, List.forall_mem_cons.mpr ⟨lw_p45, List.forall_mem_cons.mpr ⟨lw_p46, List.forall_mem_cons.mpr ⟨lw_p47, fun _ h => absurd h List.not_mem_nil⟩⟩⟩⟩⟩⟩⟩⟩⟩⟩⟩⟩⟩⟩⟩⟩
theorem lw_p48 : lw_okq (⟨"CrossedFirstModel", "findRanks", "(I)V"⟩, 34) := ⟨⟨by decide +kernel, by decide +kernel⟩, List.mem_of_getElem? (i := 770) (by decide +kernel), List.mem_of_getElem? (i := 1027) (by decide +kernel), List.mem_of_getElem? (i := 1028) (by decide +kernel)⟩
theorem lw_p49 : lw_okq (⟨"CrossedFirstModel", "know", "()V"⟩, 34) := ⟨⟨by decide +kernel, by decide +kernel⟩, List.mem_of_getElem? (i := 770) (by decide +kernel), List.mem_of_getElem? (i := 1035) (by decide +kernel), List.mem_of_getElem? (i := 1036) (by decide +kernel)⟩
theorem lw_p50 : lw_okq (⟨"CrossedFirstModel", "copy", "(II)V"⟩, 34) := ⟨⟨by decide +kernel, by decide +kernel⟩, List.mem_of_getElem? (i := 770) (by decide +kernel), List.mem_of_getElem? (i := 1039) (by decide +kernel), List.mem_of_getElem? (i := 1040) (by decide +kernel)⟩
theorem lw_p51 : lw_okq (⟨"CrossedFirstModel", "hasRider", "(I)Z"⟩, 34) := ⟨⟨by decide +kernel, by decide +kernel⟩, List.mem_of_getElem? (i := 770) (by decide +kernel), List.mem_of_getElem? (i := 1047) (by decide +kernel), List.mem_of_getElem? (i := 1048) (by decide +kernel)⟩
theorem lw_p52 : lw_okq (⟨"CrossedFirstModel", "rankTried", "(I)I"⟩, 34) := ⟨⟨by decide +kernel, by decide +kernel⟩, List.mem_of_getElem? (i := 770) (by decide +kernel), List.mem_of_getElem? (i := 1063) (by decide +kernel), List.mem_of_getElem? (i := 1064) (by decide +kernel)⟩
theorem lw_p53 : lw_okq (⟨"CrossedFirstModel", "firstOne", "(I)I"⟩, 34) := ⟨⟨by decide +kernel, by decide +kernel⟩, List.mem_of_getElem? (i := 770) (by decide +kernel), List.mem_of_getElem? (i := 1079) (by decide +kernel), List.mem_of_getElem? (i := 1080) (by decide +kernel)⟩
theorem lw_p54 : lw_okq (⟨"CrossedFirstModel", "findOrder", "()V"⟩, 34) := ⟨⟨by decide +kernel, by decide +kernel⟩, List.mem_of_getElem? (i := 770) (by decide +kernel), List.mem_of_getElem? (i := 1094) (by decide +kernel), List.mem_of_getElem? (i := 1095) (by decide +kernel)⟩
theorem lw_p55 : lw_okq (⟨"CrossedFirstModel", "fits", "(II)Z"⟩, 34) := ⟨⟨by decide +kernel, by decide +kernel⟩, List.mem_of_getElem? (i := 770) (by decide +kernel), List.mem_of_getElem? (i := 1118) (by decide +kernel), List.mem_of_getElem? (i := 1119) (by decide +kernel)⟩
def lw_privs_4 : List (MethodName × Nat) := [(⟨"CrossedFirstModel", "findRanks", "(I)V"⟩, 34), (⟨"CrossedFirstModel", "know", "()V"⟩, 34), (⟨"CrossedFirstModel", "copy", "(II)V"⟩, 34), (⟨"CrossedFirstModel", "hasRider", "(I)Z"⟩, 34), (⟨"CrossedFirstModel", "rankTried", "(I)I"⟩, 34), (⟨"CrossedFirstModel", "firstOne", "(I)I"⟩, 34), (⟨"CrossedFirstModel", "findOrder", "()V"⟩, 34), (⟨"CrossedFirstModel", "fits", "(II)Z"⟩, 34)]
theorem lw_r4 : ∀ q ∈ lw_privs_4, lw_okq q := List.forall_mem_cons.mpr ⟨lw_p48, List.forall_mem_cons.mpr ⟨lw_p49, List.forall_mem_cons.mpr ⟨lw_p50, List.forall_mem_cons.mpr ⟨lw_p51, List.forall_mem_cons.mpr ⟨lw_p52, List.forall_mem_cons.mpr ⟨lw_p53, List.forall_mem_cons.mpr ⟨lw_p54, List.forall_mem_cons.mpr ⟨lw_p55, fun _ h => absurd h List.not_mem_nil⟩⟩⟩⟩⟩⟩⟩⟩
def lw_privs : List (MethodName × Nat) := lw_privs_1 ++ (lw_privs_2 ++ (lw_privs_3 ++ (lw_privs_4)))
def lw_tbl : List Cond := k2_sels lw_privs ++ tables_1
theorem lw_privs_ok : ∀ q ∈ lw_privs, lw_okq q := by
  show ∀ q ∈ lw_privs_1 ++ (lw_privs_2 ++ (lw_privs_3 ++ (lw_privs_4))), lw_okq q
  exact List.forall_mem_append.mpr ⟨lw_r1, List.forall_mem_append.mpr ⟨lw_r2, List.forall_mem_append.mpr ⟨lw_r3, lw_r4⟩⟩⟩
/-! ===== BEGIN words of one list among another's, by their places ===== -/
theorem goodIn_r {big : List Cond} (ws : List Cond) (ps : List Nat) (hp : ws = ps.filterMap (fun i => big[i]?)) (h : ws.all goodWord = true) : GoodIn big ws := by
  intro w hw
  have h1 := List.all_eq_true.mp h w hw
  rw [hp] at hw
  obtain ⟨i, -, hi⟩ := List.mem_filterMap.mp hw
  have hm : w ∈ big := by first | exact List.mem_of_getElem? hi | exact List.getElem?_mem hi
  exact ⟨hm, good_of_word h1⟩
theorem goodIn_app {big a b : List Cond} (ha : GoodIn big a) (hb : GoodIn big b) : GoodIn big (a ++ b) := fun w h => (List.mem_append.mp h).elim (ha w) (hb w)
theorem goodIn_ca {big a b : List Cond} {c : Cond} (ha : GoodIn big (c :: a)) (hb : GoodIn big b) : GoodIn big (c :: (a ++ b)) := fun w h => (List.mem_cons.mp h).elim (fun e => ha w (List.mem_cons.mpr (Or.inl e))) (fun h => (List.mem_append.mp h).elim (fun h => ha w (List.mem_cons.mpr (Or.inr h))) (hb w))
theorem goodIn_sub {big ws : List Cond} (hm : ∀ w ∈ ws, w ∈ big) (h : ws.all goodWord = true) : GoodIn big ws := fun w hw => ⟨hm w hw, good_of_word (List.all_eq_true.mp h w hw)⟩
/-! ===== END ===== -/

/-! ===== BEGIN printed: names, fields, word lists, decode rows ===== -/
def RX0 : String := "CrossedFirst$Bridge"
def TX0 : u_T := fun k => match k with
  | 0 => ("CrossedFirst$Bridge", "minutes", "[I", true)
  | _ => ("CrossedFirst$Bridge", "firsts", "[I", true)
def tyX0 : Nat → FieldType := fun k => match k with
  | 0 => .array .int
  | _ => .array .int
abbrev wsX00 : List Cond := u_ws RX0 TX0 2
theorem nmX0 : ∀ a, a < 2 → ∀ b, b < 2 → a ≠ b → (TX0 a).2.1 ≠ (TX0 b).2.1 := by decide +kernel
theorem tyX0_ok : ∀ k, k < 2 → parseFieldDescriptor (TX0 k).2.2.1 = some (tyX0 k) := by decide +kernel
abbrev cX0_init : ByteArray := prog_2_method_1_code
def yX0_init : MethodName := ⟨RX0, "<init>", "()V"⟩
abbrev cX0_span : ByteArray := prog_2_method_2_code
def yX0_span : MethodName := ⟨RX0, "span", "(LCrossedFirst$Race;LCrossedFirst$River;)V"⟩
abbrev cX0_crossWidest : ByteArray := prog_2_method_3_code
def yX0_crossWidest : MethodName := ⟨RX0, "crossWidest", "(LCrossedFirst$Race;LCrossedFirst$River;I)V"⟩
abbrev cX0_offer : ByteArray := prog_2_method_4_code
def yX0_offer : MethodName := ⟨RX0, "offer", "(LCrossedFirst$River;III)V"⟩
abbrev cX0_firstBits : ByteArray := prog_2_method_5_code
def yX0_firstBits : MethodName := ⟨RX0, "firstBits", "()I"⟩
abbrev cX0_widthsOf : ByteArray := prog_2_method_6_code
def yX0_widthsOf : MethodName := ⟨RX0, "widthsOf", "(I)I"⟩
def RX1 : String := "CrossedFirst$Changes"
def TX1 : u_T := fun k => match k with
  | 0 => ("CrossedFirst$Changes", "changed", "[I", true)
  | 1 => ("CrossedFirst$Changes", "startsWere", "[I", true)
  | 2 => ("CrossedFirst$Changes", "carriersWere", "[I", true)
  | _ => ("CrossedFirst$Changes", "size", "I", false)
def tyX1 : Nat → FieldType := fun k => match k with
  | 0 => .array .int
  | 1 => .array .int
  | 2 => .array .int
  | _ => .int
abbrev wsX10 : List Cond := u_ws RX1 TX1 4
theorem nmX1 : ∀ a, a < 4 → ∀ b, b < 4 → a ≠ b → (TX1 a).2.1 ≠ (TX1 b).2.1 := by decide +kernel
theorem tyX1_ok : ∀ k, k < 4 → parseFieldDescriptor (TX1 k).2.2.1 = some (tyX1 k) := by decide +kernel
abbrev cX1_init : ByteArray := prog_3_method_1_code
def yX1_init : MethodName := ⟨RX1, "<init>", "()V"⟩
abbrev cX1_clear : ByteArray := prog_3_method_2_code
def yX1_clear : MethodName := ⟨RX1, "clear", "()V"⟩
abbrev cX1_note : ByteArray := prog_3_method_3_code
def yX1_note : MethodName := ⟨RX1, "note", "(LCrossedFirst$River;I)V"⟩
abbrev cX1_dropOldest : ByteArray := prog_3_method_4_code
def yX1_dropOldest : MethodName := ⟨RX1, "dropOldest", "()V"⟩
abbrev cX1_takeBack : ByteArray := prog_3_method_5_code
def yX1_takeBack : MethodName := ⟨RX1, "takeBack", "(LCrossedFirst$River;)Z"⟩
def RX2 : String := "CrossedFirst$Giving"
def TX2 : u_T := fun k => match k with
  | _ => ("CrossedFirst$Giving", "least", "[I", true)
def tyX2 : Nat → FieldType := fun k => match k with
  | _ => .array .int
abbrev wsX20 : List Cond := u_ws RX2 TX2 1
theorem nmX2 : ∀ a, a < 1 → ∀ b, b < 1 → a ≠ b → (TX2 a).2.1 ≠ (TX2 b).2.1 := by decide +kernel
theorem tyX2_ok : ∀ k, k < 1 → parseFieldDescriptor (TX2 k).2.2.1 = some (tyX2 k) := by decide +kernel
abbrev cX2_init : ByteArray := prog_4_method_1_code
def yX2_init : MethodName := ⟨RX2, "<init>", "()V"⟩
abbrev cX2_weigh : ByteArray := prog_4_method_2_code
def yX2_weigh : MethodName := ⟨RX2, "weigh", "(LCrossedFirst$River;)V"⟩
abbrev cX2_holder : ByteArray := prog_4_method_3_code
def yX2_holder : MethodName := ⟨RX2, "holder", "(LCrossedFirst$River;I)I"⟩
abbrev cX2_lowestFitting : ByteArray := prog_4_method_4_code
def yX2_lowestFitting : MethodName := ⟨RX2, "lowestFitting", "(LCrossedFirst$River;II)I"⟩
abbrev cX2_off : ByteArray := prog_4_method_5_code
def yX2_off : MethodName := ⟨RX2, "off", "(LCrossedFirst$River;II)I"⟩
def RX3 : String := "CrossedFirst$Kept"
def TX3 : u_T := fun k => match k with
  | 0 => ("CrossedFirst$Kept", "starts", "[I", true)
  | 1 => ("CrossedFirst$Kept", "carriers", "[I", true)
  | _ => ("CrossedFirst$Kept", "size", "I", false)
def tyX3 : Nat → FieldType := fun k => match k with
  | 0 => .array .int
  | 1 => .array .int
  | _ => .int
abbrev wsX30 : List Cond := u_ws RX3 TX3 3
theorem nmX3 : ∀ a, a < 3 → ∀ b, b < 3 → a ≠ b → (TX3 a).2.1 ≠ (TX3 b).2.1 := by decide +kernel
theorem tyX3_ok : ∀ k, k < 3 → parseFieldDescriptor (TX3 k).2.2.1 = some (tyX3 k) := by decide +kernel
abbrev cX3_init : ByteArray := prog_5_method_1_code
def yX3_init : MethodName := ⟨RX3, "<init>", "()V"⟩
abbrev cX3_clear : ByteArray := prog_5_method_2_code
def yX3_clear : MethodName := ⟨RX3, "clear", "()V"⟩
abbrev cX3_push : ByteArray := prog_5_method_3_code
def yX3_push : MethodName := ⟨RX3, "push", "(LCrossedFirst$River;)Z"⟩
abbrev cX3_pop : ByteArray := prog_5_method_4_code
def yX3_pop : MethodName := ⟨RX3, "pop", "(LCrossedFirst$River;)Z"⟩
def RX4 : String := "CrossedFirst$Race"
def TX4 : u_T := fun k => match k with
  | 0 => ("CrossedFirst$Race", "starts", "[I", true)
  | 1 => ("CrossedFirst$Race", "carriers", "[I", true)
  | 2 => ("CrossedFirst$Race", "landings", "[I", true)
  | 3 => ("CrossedFirst$Race", "ranks", "[I", true)
  | 4 => ("CrossedFirst$Race", "byRank", "[I", true)
  | 5 => ("CrossedFirst$Race", "drawn", "[I", true)
  | 6 => ("CrossedFirst$Race", "over", "LCrossedFirst$River;", false)
  | 7 => ("CrossedFirst$Race", "flow", "[I", false)
  | 8 => ("CrossedFirst$Race", "width", "I", false)
  | 9 => ("CrossedFirst$Race", "floods", "I", false)
  | 10 => ("CrossedFirst$Race", "helpFrom", "I", false)
  | 11 => ("CrossedFirst$Race", "pull", "I", false)
  | 12 => ("CrossedFirst$Race", "kind", "I", false)
  | 13 => ("CrossedFirst$Race", "from", "I", false)
  | _ => ("CrossedFirst$Race", "far", "I", false)
def tyX4 : Nat → FieldType := fun k => match k with
  | 0 => .array .int
  | 1 => .array .int
  | 2 => .array .int
  | 3 => .array .int
  | 4 => .array .int
  | 5 => .array .int
  | 6 => .object "CrossedFirst$River"
  | 7 => .array .int
  | 8 => .int
  | 9 => .int
  | 10 => .int
  | 11 => .int
  | 12 => .int
  | 13 => .int
  | _ => .int
abbrev wsX40 : List Cond := u_ws RX4 TX4 15
theorem nmX4 : ∀ a, a < 15 → ∀ b, b < 15 → a ≠ b → (TX4 a).2.1 ≠ (TX4 b).2.1 := by decide +kernel
theorem tyX4_ok : ∀ k, k < 15 → parseFieldDescriptor (TX4 k).2.2.1 = some (tyX4 k) := by decide +kernel
abbrev cX4_init : ByteArray := prog_6_method_1_code
def yX4_init : MethodName := ⟨RX4, "<init>", "(LCrossedFirst$River;)V"⟩
abbrev cX4_prepare : ByteArray := prog_6_method_2_code
def yX4_prepare : MethodName := ⟨RX4, "prepare", "(LCrossedFirst$River;)V"⟩
abbrev cX4_unseatAll : ByteArray := prog_6_method_3_code
def yX4_unseatAll : MethodName := ⟨RX4, "unseatAll", "()V"⟩
abbrev cX4_drawFlow : ByteArray := prog_6_method_4_code
def yX4_drawFlow : MethodName := ⟨RX4, "drawFlow", "(I)V"⟩
abbrev cX4_run : ByteArray := prog_6_method_5_code
def yX4_run : MethodName := ⟨RX4, "run", "()V"⟩
abbrev cX4_mount : ByteArray := prog_6_method_6_code
def yX4_mount : MethodName := ⟨RX4, "mount", "(I)V"⟩
abbrev cX4_mountBeast : ByteArray := prog_6_method_7_code
def yX4_mountBeast : MethodName := ⟨RX4, "mountBeast", "(I)V"⟩
abbrev cX4_mountRaft : ByteArray := prog_6_method_8_code
def yX4_mountRaft : MethodName := ⟨RX4, "mountRaft", "(I)V"⟩
abbrev cX4_earliestHelp : ByteArray := prog_6_method_9_code
def yX4_earliestHelp : MethodName := ⟨RX4, "earliestHelp", "()I"⟩
abbrev cX4_moveUntil : ByteArray := prog_6_method_10_code
def yX4_moveUntil : MethodName := ⟨RX4, "moveUntil", "(I)I"⟩
abbrev cX4_yardsIn : ByteArray := prog_6_method_11_code
def yX4_yardsIn : MethodName := ⟨RX4, "yardsIn", "(I)I"⟩
abbrev cX4_takenIn : ByteArray := prog_6_method_12_code
def yX4_takenIn : MethodName := ⟨RX4, "takenIn", "(I)I"⟩
abbrev cX4_isAhead : ByteArray := prog_6_method_13_code
def yX4_isAhead : MethodName := ⟨RX4, "isAhead", "(II)Z"⟩
abbrev cX4_leader : ByteArray := prog_6_method_14_code
def yX4_leader : MethodName := ⟨RX4, "leader", "(I)I"⟩
abbrev cX4_firstRiderOrSelf : ByteArray := prog_6_method_15_code
def yX4_firstRiderOrSelf : MethodName := ⟨RX4, "firstRiderOrSelf", "(I)I"⟩
abbrev cX4_lastLanding : ByteArray := prog_6_method_16_code
def yX4_lastLanding : MethodName := ⟨RX4, "lastLanding", "()I"⟩
def RX5 : String := "CrossedFirst$Reader"
def TX5 : u_T := fun k => match k with
  | 0 => ("CrossedFirst$Reader", "numbers", "[I", true)
  | _ => ("CrossedFirst$Reader", "behind", "I", false)
def tyX5 : Nat → FieldType := fun k => match k with
  | 0 => .array .int
  | _ => .int
abbrev wsX50 : List Cond := u_ws RX5 TX5 2
theorem nmX5 : ∀ a, a < 2 → ∀ b, b < 2 → a ≠ b → (TX5 a).2.1 ≠ (TX5 b).2.1 := by decide +kernel
theorem tyX5_ok : ∀ k, k < 2 → parseFieldDescriptor (TX5 k).2.2.1 = some (tyX5 k) := by decide +kernel
abbrev cX5_init : ByteArray := prog_7_method_1_code
def yX5_init : MethodName := ⟨RX5, "<init>", "()V"⟩
abbrev cX5_readText : ByteArray := prog_7_method_2_code
def yX5_readText : MethodName := ⟨RX5, "readText", "([CILCrossedFirst$River;)I"⟩
abbrev cX5_readItem : ByteArray := prog_7_method_3_code
def yX5_readItem : MethodName := ⟨RX5, "readItem", "([CII)Z"⟩
abbrev cX5_readNumber : ByteArray := prog_7_method_4_code
def yX5_readNumber : MethodName := ⟨RX5, "readNumber", "([CII)Z"⟩
abbrev cX5_numbersBehind : ByteArray := prog_7_method_5_code
def yX5_numbersBehind : MethodName := ⟨RX5, "numbersBehind", "(I)I"⟩
abbrev cX5_tell : ByteArray := prog_7_method_6_code
def yX5_tell : MethodName := ⟨RX5, "tell", "(ILCrossedFirst$River;)Z"⟩
def RX6 : String := "CrossedFirst$River"
def TX6 : u_T := fun k => match k with
  | 0 => ("CrossedFirst$River", "strokes", "[I", true)
  | 1 => ("CrossedFirst$River", "weights", "[I", true)
  | 2 => ("CrossedFirst$River", "kinds", "[I", true)
  | 3 => ("CrossedFirst$River", "starts", "[I", true)
  | 4 => ("CrossedFirst$River", "carriers", "[I", true)
  | 5 => ("CrossedFirst$River", "rafts", "[I", true)
  | 6 => ("CrossedFirst$River", "voices", "[I", true)
  | 7 => ("CrossedFirst$River", "wants", "[I", true)
  | 8 => ("CrossedFirst$River", "harvests", "[I", true)
  | 9 => ("CrossedFirst$River", "currentsFrom", "[I", true)
  | 10 => ("CrossedFirst$River", "currentsTake", "[I", true)
  | 11 => ("CrossedFirst$River", "flow", "[I", true)
  | 12 => ("CrossedFirst$River", "beasts", "I", false)
  | 13 => ("CrossedFirst$River", "width", "I", false)
  | 14 => ("CrossedFirst$River", "currents", "I", false)
  | 15 => ("CrossedFirst$River", "raftsTold", "I", false)
  | 16 => ("CrossedFirst$River", "voicesTold", "I", false)
  | _ => ("CrossedFirst$River", "sharedByRafts", "Z", false)
def tyX6 : Nat → FieldType := fun k => match k with
  | 0 => .array .int
  | 1 => .array .int
  | 2 => .array .int
  | 3 => .array .int
  | 4 => .array .int
  | 5 => .array .int
  | 6 => .array .int
  | 7 => .array .int
  | 8 => .array .int
  | 9 => .array .int
  | 10 => .array .int
  | 11 => .array .int
  | 12 => .int
  | 13 => .int
  | 14 => .int
  | 15 => .int
  | 16 => .int
  | _ => .boolean
abbrev wsX60 : List Cond := u_ws RX6 TX6 18
theorem nmX6 : ∀ a, a < 18 → ∀ b, b < 18 → a ≠ b → (TX6 a).2.1 ≠ (TX6 b).2.1 := by decide +kernel
theorem tyX6_ok : ∀ k, k < 18 → parseFieldDescriptor (TX6 k).2.2.1 = some (tyX6 k) := by decide +kernel
abbrev cX6_init : ByteArray := prog_8_method_1_code
def yX6_init : MethodName := ⟨RX6, "<init>", "()V"⟩
abbrev cX6_clear : ByteArray := prog_8_method_2_code
def yX6_clear : MethodName := ⟨RX6, "clear", "()V"⟩
abbrev cX6_has : ByteArray := prog_8_method_3_code
def yX6_has : MethodName := ⟨RX6, "has", "(I)Z"⟩
abbrev cX6_addBeast : ByteArray := prog_8_method_4_code
def yX6_addBeast : MethodName := ⟨RX6, "addBeast", "(IIII)Z"⟩
abbrev cX6_setWidth : ByteArray := prog_8_method_5_code
def yX6_setWidth : MethodName := ⟨RX6, "setWidth", "(I)Z"⟩
abbrev cX6_addCurrent : ByteArray := prog_8_method_6_code
def yX6_addCurrent : MethodName := ⟨RX6, "addCurrent", "(II)Z"⟩
abbrev cX6_setCarrier : ByteArray := prog_8_method_7_code
def yX6_setCarrier : MethodName := ⟨RX6, "setCarrier", "(II)Z"⟩
abbrev cX6_addRaft : ByteArray := prog_8_method_8_code
def yX6_addRaft : MethodName := ⟨RX6, "addRaft", "(III)Z"⟩
abbrev cX6_putOnRaft : ByteArray := prog_8_method_9_code
def yX6_putOnRaft : MethodName := ⟨RX6, "putOnRaft", "(I)V"⟩
abbrev cX6_addVoice : ByteArray := prog_8_method_10_code
def yX6_addVoice : MethodName := ⟨RX6, "addVoice", "(I)Z"⟩
abbrev cX6_setWant : ByteArray := prog_8_method_11_code
def yX6_setWant : MethodName := ⟨RX6, "setWant", "(II)Z"⟩
abbrev cX6_setHarvest : ByteArray := prog_8_method_12_code
def yX6_setHarvest : MethodName := ⟨RX6, "setHarvest", "(II)Z"⟩
abbrev cX6_canBeLaid : ByteArray := prog_8_method_13_code
def yX6_canBeLaid : MethodName := ⟨RX6, "canBeLaid", "()Z"⟩
abbrev cX6_settle : ByteArray := prog_8_method_14_code
def yX6_settle : MethodName := ⟨RX6, "settle", "()V"⟩
abbrev cX6_takenFrom : ByteArray := prog_8_method_15_code
def yX6_takenFrom : MethodName := ⟨RX6, "takenFrom", "(I)I"⟩
abbrev cX6_isRidden : ByteArray := prog_8_method_16_code
def yX6_isRidden : MethodName := ⟨RX6, "isRidden", "(I)Z"⟩
abbrev cX6_riders : ByteArray := prog_8_method_17_code
def yX6_riders : MethodName := ⟨RX6, "riders", "()I"⟩
def RX7 : String := "CrossedFirst$Sightings"
def TX7 : u_T := fun k => match k with
  | 0 => ("CrossedFirst$Sightings", "sighted", "[I", true)
  | 1 => ("CrossedFirst$Sightings", "ranks", "[I", true)
  | _ => ("CrossedFirst$Sightings", "size", "I", false)
def tyX7 : Nat → FieldType := fun k => match k with
  | 0 => .array .int
  | 1 => .array .int
  | _ => .int
abbrev wsX70 : List Cond := u_ws RX7 TX7 3
theorem nmX7 : ∀ a, a < 3 → ∀ b, b < 3 → a ≠ b → (TX7 a).2.1 ≠ (TX7 b).2.1 := by decide +kernel
theorem tyX7_ok : ∀ k, k < 3 → parseFieldDescriptor (TX7 k).2.2.1 = some (tyX7 k) := by decide +kernel
abbrev cX7_init : ByteArray := prog_9_method_1_code
def yX7_init : MethodName := ⟨RX7, "<init>", "()V"⟩
abbrev cX7_clear : ByteArray := prog_9_method_2_code
def yX7_clear : MethodName := ⟨RX7, "clear", "()V"⟩
abbrev cX7_add : ByteArray := prog_9_method_3_code
def yX7_add : MethodName := ⟨RX7, "add", "(II)Z"⟩
abbrev cX7_agreeWith : ByteArray := prog_9_method_4_code
def yX7_agreeWith : MethodName := ⟨RX7, "agreeWith", "(LCrossedFirst$Race;)Z"⟩
def RX8 : String := "CrossedFirst"
def TX8 : u_T := fun k => match k with
  | 0 => ("CrossedFirst", "letters", "[C", true)
  | 1 => ("CrossedFirst", "length", "I", false)
  | 2 => ("CrossedFirst", "reader", "LCrossedFirst$Reader;", true)
  | 3 => ("CrossedFirst", "laid", "LCrossedFirst$River;", false)
  | 4 => ("CrossedFirst", "spare", "LCrossedFirst$River;", false)
  | 5 => ("CrossedFirst", "race", "LCrossedFirst$Race;", true)
  | 6 => ("CrossedFirst", "changes", "LCrossedFirst$Changes;", true)
  | 7 => ("CrossedFirst", "kept", "LCrossedFirst$Kept;", true)
  | 8 => ("CrossedFirst", "sightings", "LCrossedFirst$Sightings;", true)
  | 9 => ("CrossedFirst", "spans", "LCrossedFirst$Bridge;", true)
  | _ => ("CrossedFirst", "giving", "LCrossedFirst$Giving;", true)
def tyX8 : Nat → FieldType := fun k => match k with
  | 0 => .array .char
  | 1 => .int
  | 2 => .object "CrossedFirst$Reader"
  | 3 => .object "CrossedFirst$River"
  | 4 => .object "CrossedFirst$River"
  | 5 => .object "CrossedFirst$Race"
  | 6 => .object "CrossedFirst$Changes"
  | 7 => .object "CrossedFirst$Kept"
  | 8 => .object "CrossedFirst$Sightings"
  | 9 => .object "CrossedFirst$Bridge"
  | _ => .object "CrossedFirst$Giving"
abbrev wsX80 : List Cond := u_ws RX8 TX8 11
theorem nmX8 : ∀ a, a < 11 → ∀ b, b < 11 → a ≠ b → (TX8 a).2.1 ≠ (TX8 b).2.1 := by decide +kernel
theorem tyX8_ok : ∀ k, k < 11 → parseFieldDescriptor (TX8 k).2.2.1 = some (tyX8 k) := by decide +kernel
abbrev cX8_init : ByteArray := prog_1_method_1_code
def yX8_init : MethodName := ⟨RX8, "<init>", "()V"⟩
abbrev cX8_write : ByteArray := prog_1_method_2_code
def yX8_write : MethodName := ⟨RX8, "write", "(I)I"⟩
abbrev cX8_wipe : ByteArray := prog_1_method_3_code
def yX8_wipe : MethodName := ⟨RX8, "wipe", "()I"⟩
abbrev cX8_fault : ByteArray := prog_1_method_4_code
def yX8_fault : MethodName := ⟨RX8, "fault", "()I"⟩
abbrev cX8_lay : ByteArray := prog_1_method_5_code
def yX8_lay : MethodName := ⟨RX8, "lay", "()I"⟩
abbrev cX8_beast : ByteArray := prog_1_method_6_code
def yX8_beast : MethodName := ⟨RX8, "beast", "(II)I"⟩
abbrev cX8_current : ByteArray := prog_1_method_7_code
def yX8_current : MethodName := ⟨RX8, "current", "(I)I"⟩
abbrev cX8_where : ByteArray := prog_1_method_8_code
def yX8_where : MethodName := ⟨RX8, "where", "(II)I"⟩
abbrev cX8_lands : ByteArray := prog_1_method_9_code
def yX8_lands : MethodName := ⟨RX8, "lands", "(I)I"⟩
abbrev cX8_rank : ByteArray := prog_1_method_10_code
def yX8_rank : MethodName := ⟨RX8, "rank", "(I)I"⟩
abbrev cX8_who : ByteArray := prog_1_method_11_code
def yX8_who : MethodName := ⟨RX8, "who", "(I)I"⟩
abbrev cX8_start : ByteArray := prog_1_method_12_code
def yX8_start : MethodName := ⟨RX8, "start", "(II)I"⟩
abbrev cX8_ride : ByteArray := prog_1_method_13_code
def yX8_ride : MethodName := ⟨RX8, "ride", "(II)I"⟩
abbrev cX8_leave : ByteArray := prog_1_method_14_code
def yX8_leave : MethodName := ⟨RX8, "leave", "(I)I"⟩
abbrev cX8_undo : ByteArray := prog_1_method_15_code
def yX8_undo : MethodName := ⟨RX8, "undo", "()I"⟩
abbrev cX8_late : ByteArray := prog_1_method_16_code
def yX8_late : MethodName := ⟨RX8, "late", "(I)I"⟩
abbrev cX8_back : ByteArray := prog_1_method_17_code
def yX8_back : MethodName := ⟨RX8, "back", "(II)I"⟩
abbrev cX8_twos : ByteArray := prog_1_method_18_code
def yX8_twos : MethodName := ⟨RX8, "twos", "()I"⟩
abbrev cX8_bridge : ByteArray := prog_1_method_19_code
def yX8_bridge : MethodName := ⟨RX8, "bridge", "(I)I"⟩
abbrev cX8_calm : ByteArray := prog_1_method_20_code
def yX8_calm : MethodName := ⟨RX8, "calm", "(I)I"⟩
abbrev cX8_order : ByteArray := prog_1_method_21_code
def yX8_order : MethodName := ⟨RX8, "order", "(I)I"⟩
abbrev cX8_harvest : ByteArray := prog_1_method_22_code
def yX8_harvest : MethodName := ⟨RX8, "harvest", "(I)I"⟩
abbrev cX8_odds : ByteArray := prog_1_method_23_code
def yX8_odds : MethodName := ⟨RX8, "odds", "(IIII)I"⟩
abbrev cX8_seen : ByteArray := prog_1_method_24_code
def yX8_seen : MethodName := ⟨RX8, "seen", "(II)I"⟩
abbrev cX8_forget : ByteArray := prog_1_method_25_code
def yX8_forget : MethodName := ⟨RX8, "forget", "()I"⟩
abbrev cX8_rides : ByteArray := prog_1_method_26_code
def yX8_rides : MethodName := ⟨RX8, "rides", "(I)I"⟩
abbrev cX8_river : ByteArray := prog_1_method_27_code
def yX8_river : MethodName := ⟨RX8, "river", "(II)I"⟩
abbrev cX8_keep : ByteArray := prog_1_method_28_code
def yX8_keep : MethodName := ⟨RX8, "keep", "()I"⟩
abbrev cX8_restore : ByteArray := prog_1_method_29_code
def yX8_restore : MethodName := ⟨RX8, "restore", "()I"⟩
abbrev cX8_count : ByteArray := prog_1_method_30_code
def yX8_count : MethodName := ⟨RX8, "count", "(I)I"⟩
abbrev cX8_firstRiver : ByteArray := prog_1_method_31_code
def yX8_firstRiver : MethodName := ⟨RX8, "firstRiver", "()LCrossedFirst$River;"⟩
abbrev cX8_within : ByteArray := prog_1_method_32_code
def yX8_within : MethodName := ⟨RX8, "within", "(III)Z"⟩
abbrev cX8_commonDivisor : ByteArray := prog_1_method_33_code
def yX8_commonDivisor : MethodName := ⟨RX8, "commonDivisor", "(II)I"⟩
abbrev cX8_raceAsItIs : ByteArray := prog_1_method_34_code
def yX8_raceAsItIs : MethodName := ⟨RX8, "raceAsItIs", "()V"⟩
abbrev cX8_changeCarrier : ByteArray := prog_1_method_35_code
def yX8_changeCarrier : MethodName := ⟨RX8, "changeCarrier", "(II)I"⟩
abbrev cX8_rankRidingOn : ByteArray := prog_1_method_36_code
def yX8_rankRidingOn : MethodName := ⟨RX8, "rankRidingOn", "(II)I"⟩
abbrev cX8_lightOnes : ByteArray := prog_1_method_37_code
def yX8_lightOnes : MethodName := ⟨RX8, "lightOnes", "(I)I"⟩
abbrev cX8_bearersOf : ByteArray := prog_1_method_38_code
def yX8_bearersOf : MethodName := ⟨RX8, "bearersOf", "(I)I"⟩
abbrev cX8_wouldRather : ByteArray := prog_1_method_39_code
def yX8_wouldRather : MethodName := ⟨RX8, "wouldRather", "(II)Z"⟩
abbrev cX8_chancesOfFirst : ByteArray := prog_1_method_40_code
def yX8_chancesOfFirst : MethodName := ⟨RX8, "chancesOfFirst", "(III)I"⟩
abbrev cX8_explains : ByteArray := prog_1_method_41_code
def yX8_explains : MethodName := ⟨RX8, "explains", "(II)Z"⟩
def RX9 : String := "CrossedFirstModel"
def TX9 : u_T := fun k => match k with
  | 0 => ("CrossedFirstModel", "text", "[B", true)
  | 1 => ("CrossedFirstModel", "typed", "I", false)
  | 2 => ("CrossedFirstModel", "many", "[I", true)
  | 3 => ("CrossedFirstModel", "strokes", "[I", true)
  | 4 => ("CrossedFirstModel", "weight", "[I", true)
  | 5 => ("CrossedFirstModel", "kind", "[I", true)
  | 6 => ("CrossedFirstModel", "begins", "[I", true)
  | 7 => ("CrossedFirstModel", "wide", "[I", true)
  | 8 => ("CrossedFirstModel", "currents", "[I", true)
  | 9 => ("CrossedFirstModel", "currentFrom", "[I", true)
  | 10 => ("CrossedFirstModel", "currentTakes", "[I", true)
  | 11 => ("CrossedFirstModel", "mount", "[I", true)
  | 12 => ("CrossedFirstModel", "rafts", "[I", true)
  | 13 => ("CrossedFirstModel", "raft", "[I", true)
  | 14 => ("CrossedFirstModel", "spoken", "[I", true)
  | 15 => ("CrossedFirstModel", "speakers", "[I", true)
  | 16 => ("CrossedFirstModel", "wants", "[I", true)
  | 17 => ("CrossedFirstModel", "yields", "[I", true)
  | 18 => ("CrossedFirstModel", "at", "I", false)
  | 19 => ("CrossedFirstModel", "isSo", "Z", false)
  | 20 => ("CrossedFirstModel", "now", "[I", true)
  | 21 => ("CrossedFirstModel", "deeds", "I", false)
  | 22 => ("CrossedFirstModel", "kept", "I", false)
  | 23 => ("CrossedFirstModel", "span", "I", false)
  | 24 => ("CrossedFirstModel", "floods", "I", false)
  | 25 => ("CrossedFirstModel", "riverBy", "I", false)
  | 26 => ("CrossedFirstModel", "far", "[I", true)
  | 27 => ("CrossedFirstModel", "landed", "[I", true)
  | 28 => ("CrossedFirstModel", "ranked", "[I", true)
  | 29 => ("CrossedFirstModel", "pairs", "[I", true)
  | 30 => ("CrossedFirstModel", "offs", "[I", true)
  | 31 => ("CrossedFirstModel", "seenOf", "[I", true)
  | 32 => ("CrossedFirstModel", "seenRank", "[I", true)
  | _ => ("CrossedFirstModel", "seenMany", "I", false)
def tyX9 : Nat → FieldType := fun k => match k with
  | 0 => .array .byte
  | 1 => .int
  | 2 => .array .int
  | 3 => .array .int
  | 4 => .array .int
  | 5 => .array .int
  | 6 => .array .int
  | 7 => .array .int
  | 8 => .array .int
  | 9 => .array .int
  | 10 => .array .int
  | 11 => .array .int
  | 12 => .array .int
  | 13 => .array .int
  | 14 => .array .int
  | 15 => .array .int
  | 16 => .array .int
  | 17 => .array .int
  | 18 => .int
  | 19 => .boolean
  | 20 => .array .int
  | 21 => .int
  | 22 => .int
  | 23 => .int
  | 24 => .int
  | 25 => .int
  | 26 => .array .int
  | 27 => .array .int
  | 28 => .array .int
  | 29 => .array .int
  | 30 => .array .int
  | 31 => .array .int
  | 32 => .array .int
  | _ => .int
abbrev wsX90 : List Cond := u_ws RX9 TX9 34
theorem nmX9 : ∀ a, a < 34 → ∀ b, b < 34 → a ≠ b → (TX9 a).2.1 ≠ (TX9 b).2.1 := by decide +kernel
theorem tyX9_ok : ∀ k, k < 34 → parseFieldDescriptor (TX9 k).2.2.1 = some (tyX9 k) := by decide +kernel
abbrev cX9_init : ByteArray := prog_11_method_1_code
def yX9_init : MethodName := ⟨RX9, "<init>", "()V"⟩
abbrev cX9_firstBeast : ByteArray := prog_11_method_2_code
def yX9_firstBeast : MethodName := ⟨RX9, "firstBeast", "(IIIII)V"⟩
abbrev cX9_in : ByteArray := prog_11_method_4_code
def yX9_in : MethodName := ⟨RX9, "in", "(III)Z"⟩
abbrev cX9_write : ByteArray := prog_11_method_5_code
def yX9_write : MethodName := ⟨RX9, "write", "(I)I"⟩
abbrev cX9_wipe : ByteArray := prog_11_method_6_code
def yX9_wipe : MethodName := ⟨RX9, "wipe", "()I"⟩
abbrev cX9_here : ByteArray := prog_11_method_7_code
def yX9_here : MethodName := ⟨RX9, "here", "()I"⟩
abbrev cX9_number : ByteArray := prog_11_method_8_code
def yX9_number : MethodName := ⟨RX9, "number", "(III)I"⟩
abbrev cX9_told : ByteArray := prog_11_method_9_code
def yX9_told : MethodName := ⟨RX9, "told", "(I)I"⟩
abbrev cX9_readBeast : ByteArray := prog_11_method_10_code
def yX9_readBeast : MethodName := ⟨RX9, "readBeast", "()V"⟩
abbrev cX9_readRaft : ByteArray := prog_11_method_11_code
def yX9_readRaft : MethodName := ⟨RX9, "readRaft", "()V"⟩
abbrev cX9_readCurrent : ByteArray := prog_11_method_12_code
def yX9_readCurrent : MethodName := ⟨RX9, "readCurrent", "()V"⟩
abbrev cX9_readItem : ByteArray := prog_11_method_13_code
def yX9_readItem : MethodName := ⟨RX9, "readItem", "()V"⟩
abbrev cX9_fault : ByteArray := prog_11_method_14_code
def yX9_fault : MethodName := ⟨RX9, "fault", "()I"⟩
abbrev cX9_isInRaft : ByteArray := prog_11_method_15_code
def yX9_isInRaft : MethodName := ⟨RX9, "isInRaft", "(II)Z"⟩
abbrev cX9_canBeLaid : ByteArray := prog_11_method_16_code
def yX9_canBeLaid : MethodName := ⟨RX9, "canBeLaid", "()Z"⟩
abbrev cX9_lay : ByteArray := prog_11_method_17_code
def yX9_lay : MethodName := ⟨RX9, "lay", "()I"⟩
abbrev cX9_anew : ByteArray := prog_11_method_18_code
def yX9_anew : MethodName := ⟨RX9, "anew", "()V"⟩
abbrev cX9_copy : ByteArray := prog_11_method_19_code
def yX9_copy : MethodName := ⟨RX9, "copy", "(II)V"⟩
abbrev cX9_isBeast : ByteArray := prog_11_method_20_code
def yX9_isBeast : MethodName := ⟨RX9, "isBeast", "(I)Z"⟩
abbrev cX9_ahead : ByteArray := prog_11_method_21_code
def yX9_ahead : MethodName := ⟨RX9, "ahead", "(I)I"⟩
abbrev cX9_raftOf : ByteArray := prog_11_method_22_code
def yX9_raftOf : MethodName := ⟨RX9, "raftOf", "(I)I"⟩
abbrev cX9_beast : ByteArray := prog_11_method_23_code
def yX9_beast : MethodName := ⟨RX9, "beast", "(II)I"⟩
abbrev cX9_currentIn : ByteArray := prog_11_method_24_code
def yX9_currentIn : MethodName := ⟨RX9, "currentIn", "(I)I"⟩
abbrev cX9_current : ByteArray := prog_11_method_25_code
def yX9_current : MethodName := ⟨RX9, "current", "(I)I"⟩
abbrev cX9_takesIn : ByteArray := prog_11_method_26_code
def yX9_takesIn : MethodName := ⟨RX9, "takesIn", "(I)I"⟩
abbrev cX9_hasHelp : ByteArray := prog_11_method_27_code
def yX9_hasHelp : MethodName := ⟨RX9, "hasHelp", "(II)Z"⟩
abbrev cX9_strokeOf : ByteArray := prog_11_method_28_code
def yX9_strokeOf : MethodName := ⟨RX9, "strokeOf", "(IIIIZ)I"⟩
abbrev cX9_raftStroke : ByteArray := prog_11_method_29_code
def yX9_raftStroke : MethodName := ⟨RX9, "raftStroke", "(IIII)I"⟩
abbrev cX9_cross : ByteArray := prog_11_method_30_code
def yX9_cross : MethodName := ⟨RX9, "cross", "(II)V"⟩
abbrev cX9_plain : ByteArray := prog_11_method_31_code
def yX9_plain : MethodName := ⟨RX9, "plain", "()V"⟩
abbrev cX9_crossNow : ByteArray := prog_11_method_32_code
def yX9_crossNow : MethodName := ⟨RX9, "crossNow", "()V"⟩
abbrev cX9_where : ByteArray := prog_11_method_33_code
def yX9_where : MethodName := ⟨RX9, "where", "(II)I"⟩
abbrev cX9_lands : ByteArray := prog_11_method_34_code
def yX9_lands : MethodName := ⟨RX9, "lands", "(I)I"⟩
abbrev cX9_rankedWith : ByteArray := prog_11_method_35_code
def yX9_rankedWith : MethodName := ⟨RX9, "rankedWith", "(II)I"⟩
abbrev cX9_isAhead : ByteArray := prog_11_method_36_code
def yX9_isAhead : MethodName := ⟨RX9, "isAhead", "(III)Z"⟩
abbrev cX9_rankOf : ByteArray := prog_11_method_37_code
def yX9_rankOf : MethodName := ⟨RX9, "rankOf", "(II)I"⟩
abbrev cX9_findRanks : ByteArray := prog_11_method_38_code
def yX9_findRanks : MethodName := ⟨RX9, "findRanks", "(I)V"⟩
abbrev cX9_rank : ByteArray := prog_11_method_39_code
def yX9_rank : MethodName := ⟨RX9, "rank", "(I)I"⟩
abbrev cX9_who : ByteArray := prog_11_method_40_code
def yX9_who : MethodName := ⟨RX9, "who", "(I)I"⟩
abbrev cX9_know : ByteArray := prog_11_method_41_code
def yX9_know : MethodName := ⟨RX9, "know", "()V"⟩
abbrev cX9_start : ByteArray := prog_11_method_42_code
def yX9_start : MethodName := ⟨RX9, "start", "(II)I"⟩
abbrev cX9_hasRider : ByteArray := prog_11_method_43_code
def yX9_hasRider : MethodName := ⟨RX9, "hasRider", "(I)Z"⟩
abbrev cX9_ride : ByteArray := prog_11_method_44_code
def yX9_ride : MethodName := ⟨RX9, "ride", "(II)I"⟩
abbrev cX9_leave : ByteArray := prog_11_method_45_code
def yX9_leave : MethodName := ⟨RX9, "leave", "(I)I"⟩
abbrev cX9_undo : ByteArray := prog_11_method_46_code
def yX9_undo : MethodName := ⟨RX9, "undo", "()I"⟩
abbrev cX9_rankTried : ByteArray := prog_11_method_47_code
def yX9_rankTried : MethodName := ⟨RX9, "rankTried", "(I)I"⟩
abbrev cX9_late : ByteArray := prog_11_method_48_code
def yX9_late : MethodName := ⟨RX9, "late", "(I)I"⟩
abbrev cX9_back : ByteArray := prog_11_method_49_code
def yX9_back : MethodName := ⟨RX9, "back", "(II)I"⟩
abbrev cX9_twos : ByteArray := prog_11_method_50_code
def yX9_twos : MethodName := ⟨RX9, "twos", "()I"⟩
abbrev cX9_firstOne : ByteArray := prog_11_method_51_code
def yX9_firstOne : MethodName := ⟨RX9, "firstOne", "(I)I"⟩
abbrev cX9_bridge : ByteArray := prog_11_method_52_code
def yX9_bridge : MethodName := ⟨RX9, "bridge", "(I)I"⟩
abbrev cX9_off : ByteArray := prog_11_method_53_code
def yX9_off : MethodName := ⟨RX9, "off", "(II)I"⟩
abbrev cX9_calm : ByteArray := prog_11_method_54_code
def yX9_calm : MethodName := ⟨RX9, "calm", "(I)I"⟩
abbrev cX9_findOrder : ByteArray := prog_11_method_55_code
def yX9_findOrder : MethodName := ⟨RX9, "findOrder", "()V"⟩
abbrev cX9_order : ByteArray := prog_11_method_56_code
def yX9_order : MethodName := ⟨RX9, "order", "(I)I"⟩
abbrev cX9_harvest : ByteArray := prog_11_method_57_code
def yX9_harvest : MethodName := ⟨RX9, "harvest", "(I)I"⟩
abbrev cX9_odds : ByteArray := prog_11_method_58_code
def yX9_odds : MethodName := ⟨RX9, "odds", "(IIII)I"⟩
abbrev cX9_seen : ByteArray := prog_11_method_59_code
def yX9_seen : MethodName := ⟨RX9, "seen", "(II)I"⟩
abbrev cX9_forget : ByteArray := prog_11_method_60_code
def yX9_forget : MethodName := ⟨RX9, "forget", "()I"⟩
abbrev cX9_fits : ByteArray := prog_11_method_61_code
def yX9_fits : MethodName := ⟨RX9, "fits", "(II)Z"⟩
abbrev cX9_rides : ByteArray := prog_11_method_62_code
def yX9_rides : MethodName := ⟨RX9, "rides", "(I)I"⟩
abbrev cX9_river : ByteArray := prog_11_method_63_code
def yX9_river : MethodName := ⟨RX9, "river", "(II)I"⟩
abbrev cX9_keep : ByteArray := prog_11_method_64_code
def yX9_keep : MethodName := ⟨RX9, "keep", "()I"⟩
abbrev cX9_restore : ByteArray := prog_11_method_65_code
def yX9_restore : MethodName := ⟨RX9, "restore", "()I"⟩
abbrev cX9_count : ByteArray := prog_11_method_66_code
def yX9_count : MethodName := ⟨RX9, "count", "(I)I"⟩
def RJ6 : String := "java/lang/Integer"
def TJ6 : u_T := fun k => match k with
  | _ => ("", "", "", false)
def tyJ6 : Nat → FieldType := fun k => match k with
  | _ => .int
abbrev wsJ60 : List Cond := u_ws RJ6 TJ6 0
theorem nmJ6 : ∀ a, a < 0 → ∀ b, b < 0 → a ≠ b → (TJ6 a).2.1 ≠ (TJ6 b).2.1 := by decide +kernel
theorem tyJ6_ok : ∀ k, k < 0 → parseFieldDescriptor (TJ6 k).2.2.1 = some (tyJ6 k) := by decide +kernel
abbrev cJ6_bitCount_0f7a4 : ByteArray := prog_12_method_49_code
def yJ6_bitCount_0f7a4 : MethodName := ⟨RJ6, "bitCount", "(I)I"⟩
def RJ9 : String := "java/lang/Math"
def TJ9 : u_T := fun k => match k with
  | _ => ("", "", "", false)
def tyJ9 : Nat → FieldType := fun k => match k with
  | _ => .int
abbrev wsJ90 : List Cond := u_ws RJ9 TJ9 0
theorem nmJ9 : ∀ a, a < 0 → ∀ b, b < 0 → a ≠ b → (TJ9 a).2.1 ≠ (TJ9 b).2.1 := by decide +kernel
theorem tyJ9_ok : ∀ k, k < 0 → parseFieldDescriptor (TJ9 k).2.2.1 = some (tyJ9 k) := by decide +kernel
abbrev cJ9_abs_0f7a4 : ByteArray := prog_13_method_59_code
def yJ9_abs_0f7a4 : MethodName := ⟨RJ9, "abs", "(I)I"⟩
abbrev cJ9_max_7cf53 : ByteArray := prog_13_method_65_code
def yJ9_max_7cf53 : MethodName := ⟨RJ9, "max", "(II)I"⟩
abbrev cJ9_min_7cf53 : ByteArray := prog_13_method_69_code
def yJ9_min_7cf53 : MethodName := ⟨RJ9, "min", "(II)I"⟩
def RJ0 : String := "java/lang/String"
def TJ0 : u_T := fun k => match k with
  | _ => ("", "", "", false)
def tyJ0 : Nat → FieldType := fun k => match k with
  | _ => .int
abbrev wsJ00 : List Cond := u_ws RJ0 TJ0 0
theorem nmJ0 : ∀ a, a < 0 → ∀ b, b < 0 → a ≠ b → (TJ0 a).2.1 ≠ (TJ0 b).2.1 := by decide +kernel
theorem tyJ0_ok : ∀ k, k < 0 → parseFieldDescriptor (TJ0 k).2.2.1 = some (tyJ0 k) := by decide +kernel
abbrev cJ0_toCharArray_70df3 : ByteArray := prog_14_method_129_code
def yJ0_toCharArray_70df3 : MethodName := ⟨RJ0, "toCharArray", "()[C"⟩
abbrev cJ0_isLatin1_aae02 : ByteArray := prog_14_method_154_code
def yJ0_isLatin1_aae02 : MethodName := ⟨RJ0, "isLatin1", "()Z"⟩
abbrev cJ0_checkBoundsOffCount_cabcc : ByteArray := prog_14_method_157_code
def yJ0_checkBoundsOffCount_cabcc : MethodName := ⟨RJ0, "checkBoundsOffCount", "(III)I"⟩
def RJ1 : String := "java/lang/StringLatin1"
def TJ1 : u_T := fun k => match k with
  | _ => ("", "", "", false)
def tyJ1 : Nat → FieldType := fun k => match k with
  | _ => .int
abbrev wsJ10 : List Cond := u_ws RJ1 TJ1 0
theorem nmJ1 : ∀ a, a < 0 → ∀ b, b < 0 → a ≠ b → (TJ1 a).2.1 ≠ (TJ1 b).2.1 := by decide +kernel
theorem tyJ1_ok : ∀ k, k < 0 → parseFieldDescriptor (TJ1 k).2.2.1 = some (tyJ1 k) := by decide +kernel
abbrev cJ1_toChars_9d188 : ByteArray := prog_15_method_9_code
def yJ1_toChars_9d188 : MethodName := ⟨RJ1, "toChars", "([B)[C"⟩
abbrev cJ1_inflate_03870 : ByteArray := prog_15_method_49_code
def yJ1_inflate_03870 : MethodName := ⟨RJ1, "inflate", "([BI[CII)V"⟩
def RJ2 : String := "java/lang/StringUTF16"
def TJ2 : u_T := fun k => match k with
  | _ => ("", "", "", false)
def tyJ2 : Nat → FieldType := fun k => match k with
  | _ => .int
abbrev wsJ20 : List Cond := u_ws RJ2 TJ2 0
theorem nmJ2 : ∀ a, a < 0 → ∀ b, b < 0 → a ≠ b → (TJ2 a).2.1 ≠ (TJ2 b).2.1 := by decide +kernel
theorem tyJ2_ok : ∀ k, k < 0 → parseFieldDescriptor (TJ2 k).2.2.1 = some (tyJ2 k) := by decide +kernel
abbrev cJ2_getChar_3b067 : ByteArray := prog_16_method_5_code
def yJ2_getChar_3b067 : MethodName := ⟨RJ2, "getChar", "([BI)C"⟩
abbrev cJ2_length_9d52b : ByteArray := prog_16_method_6_code
def yJ2_length_9d52b : MethodName := ⟨RJ2, "length", "([B)I"⟩
abbrev cJ2_toChars_9d188 : ByteArray := prog_16_method_13_code
def yJ2_toChars_9d188 : MethodName := ⟨RJ2, "toChars", "([B)[C"⟩
abbrev cJ2_getChars_a1a8b : ByteArray := prog_16_method_26_code
def yJ2_getChars_a1a8b : MethodName := ⟨RJ2, "getChars", "([BII[CI)V"⟩
abbrev cJ2_checkBoundsOffCount_d044e : ByteArray := prog_16_method_94_code
def yJ2_checkBoundsOffCount_d044e : MethodName := ⟨RJ2, "checkBoundsOffCount", "(II[B)V"⟩
def RJ10 : String := "java/lang/System"
def TJ10 : u_T := fun k => match k with
  | _ => ("", "", "", false)
def tyJ10 : Nat → FieldType := fun k => match k with
  | _ => .int
abbrev wsJ100 : List Cond := u_ws RJ10 TJ10 0
theorem nmJ10 : ∀ a, a < 0 → ∀ b, b < 0 → a ≠ b → (TJ10 a).2.1 ≠ (TJ10 b).2.1 := by decide +kernel
theorem tyJ10_ok : ∀ k, k < 0 → parseFieldDescriptor (TJ10 k).2.2.1 = some (tyJ10 k) := by decide +kernel
def RJ3 : String := "jdk/internal/util/Preconditions"
def TJ3 : u_T := fun k => match k with
  | _ => ("", "", "", false)
def tyJ3 : Nat → FieldType := fun k => match k with
  | _ => .int
abbrev wsJ30 : List Cond := u_ws RJ3 TJ3 0
theorem nmJ3 : ∀ a, a < 0 → ∀ b, b < 0 → a ≠ b → (TJ3 a).2.1 ≠ (TJ3 b).2.1 := by decide +kernel
theorem tyJ3_ok : ∀ k, k < 0 → parseFieldDescriptor (TJ3 k).2.2.1 = some (tyJ3 k) := by decide +kernel
abbrev cJ3_checkFromIndexSize_8c36e : ByteArray := prog_18_method_13_code
def yJ3_checkFromIndexSize_8c36e : MethodName := ⟨RJ3, "checkFromIndexSize", "(IIILjava/util/function/BiFunction;)I"⟩
def RL : String := "CrossedFirstLaw"
abbrev cL_law : ByteArray := code
def yL_law : MethodName := ⟨RL, "law", "([I)Z"⟩
abbrev vwCl : List vw_C := [(RX0, TX0, 2), (RX1, TX1, 4), (RX2, TX2, 1), (RX3, TX3, 3), (RX4, TX4, 15), (RX5, TX5, 2), (RX6, TX6, 18), (RX7, TX7, 3), (RX8, TX8, 11), (RX9, TX9, 34)]
