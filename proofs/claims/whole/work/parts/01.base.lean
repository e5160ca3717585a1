-- ===== PART A: goes FIRST, ahead of the names: the tables' words, and 'selects' of the private methods out of them =====
/-- a private method of a class that the tables say can be made, by its rows of tables_1 -/
def lw_okq (q : MethodName × Nat) : Prop := (q.1.cls ≠ "java/lang/invoke/MethodHandle" ∧ q.1.cls ≠ "java/lang/invoke/VarHandle") ∧ Cond.instantiable q.1.cls q.2 ∈ tables_1 ∧ Cond.privateMethod q.1 ∈ tables_1 ∧ Cond.instanceMethod q.1 ∈ tables_1
theorem lw_p0 : lw_okq (⟨"BlockedCars$Law", "writeDefault", "()V"⟩, 4) := ⟨⟨by decide +kernel, by decide +kernel⟩, List.mem_of_getElem? (i := 123) (by decide +kernel), List.mem_of_getElem? (i := 129) (by decide +kernel), List.mem_of_getElem? (i := 130) (by decide +kernel)⟩
theorem lw_p1 : lw_okq (⟨"BlockedCars$Law", "write", "(I)V"⟩, 4) := ⟨⟨by decide +kernel, by decide +kernel⟩, List.mem_of_getElem? (i := 123) (by decide +kernel), List.mem_of_getElem? (i := 133) (by decide +kernel), List.mem_of_getElem? (i := 134) (by decide +kernel)⟩
theorem lw_p2 : lw_okq (⟨"BlockedCars", "need", "(Z)V"⟩, 16) := ⟨⟨by decide +kernel, by decide +kernel⟩, List.mem_of_getElem? (i := 27) (by decide +kernel), List.mem_of_getElem? (i := 416) (by decide +kernel), List.mem_of_getElem? (i := 417) (by decide +kernel)⟩
theorem lw_p3 : lw_okq (⟨"java/lang/Throwable", "fillInStackTrace", "(I)Ljava/lang/Throwable;"⟩, 6) := ⟨⟨by decide +kernel, by decide +kernel⟩, List.mem_of_getElem? (i := 457) (by decide +kernel), List.mem_of_getElem? (i := 455) (by decide +kernel), List.mem_of_getElem? (i := 456) (by decide +kernel)⟩
theorem lw_p4 : lw_okq (⟨"BlockedCars$Yard", "readClause", "(LBlockedCars$Reader;I)V"⟩, 11) := ⟨⟨by decide +kernel, by decide +kernel⟩, List.mem_of_getElem? (i := 72) (by decide +kernel), List.mem_of_getElem? (i := 509) (by decide +kernel), List.mem_of_getElem? (i := 510) (by decide +kernel)⟩
theorem lw_p5 : lw_okq (⟨"BlockedCars$Yard", "readLane", "(LBlockedCars$Reader;)V"⟩, 11) := ⟨⟨by decide +kernel, by decide +kernel⟩, List.mem_of_getElem? (i := 72) (by decide +kernel), List.mem_of_getElem? (i := 584) (by decide +kernel), List.mem_of_getElem? (i := 585) (by decide +kernel)⟩
theorem lw_p6 : lw_okq (⟨"BlockedCars$Yard", "readCar", "(LBlockedCars$Reader;)V"⟩, 11) := ⟨⟨by decide +kernel, by decide +kernel⟩, List.mem_of_getElem? (i := 72) (by decide +kernel), List.mem_of_getElem? (i := 601) (by decide +kernel), List.mem_of_getElem? (i := 602) (by decide +kernel)⟩
theorem lw_p7 : lw_okq (⟨"BlockedCars$Yard", "readKey", "(LBlockedCars$Reader;)V"⟩, 11) := ⟨⟨by decide +kernel, by decide +kernel⟩, List.mem_of_getElem? (i := 72) (by decide +kernel), List.mem_of_getElem? (i := 605) (by decide +kernel), List.mem_of_getElem? (i := 606) (by decide +kernel)⟩
theorem lw_p8 : lw_okq (⟨"BlockedCars$Yard", "order", "()V"⟩, 11) := ⟨⟨by decide +kernel, by decide +kernel⟩, List.mem_of_getElem? (i := 72) (by decide +kernel), List.mem_of_getElem? (i := 613) (by decide +kernel), List.mem_of_getElem? (i := 614) (by decide +kernel)⟩
theorem lw_p9 : lw_okq (⟨"BlockedCars$Yard", "isSooner", "(II)Z"⟩, 11) := ⟨⟨by decide +kernel, by decide +kernel⟩, List.mem_of_getElem? (i := 72) (by decide +kernel), List.mem_of_getElem? (i := 617) (by decide +kernel), List.mem_of_getElem? (i := 618) (by decide +kernel)⟩
theorem lw_p10 : lw_okq (⟨"BlockedCars$Law", "readSum", "(LBlockedCars$Reader;I)V"⟩, 4) := ⟨⟨by decide +kernel, by decide +kernel⟩, List.mem_of_getElem? (i := 123) (by decide +kernel), List.mem_of_getElem? (i := 649) (by decide +kernel), List.mem_of_getElem? (i := 650) (by decide +kernel)⟩
theorem lw_p11 : lw_okq (⟨"BlockedCars$Law", "readProduct", "(LBlockedCars$Reader;I)V"⟩, 4) := ⟨⟨by decide +kernel, by decide +kernel⟩, List.mem_of_getElem? (i := 123) (by decide +kernel), List.mem_of_getElem? (i := 653) (by decide +kernel), List.mem_of_getElem? (i := 654) (by decide +kernel)⟩
theorem lw_p12 : lw_okq (⟨"BlockedCars$Law", "readUnit", "(LBlockedCars$Reader;I)V"⟩, 4) := ⟨⟨by decide +kernel, by decide +kernel⟩, List.mem_of_getElem? (i := 123) (by decide +kernel), List.mem_of_getElem? (i := 657) (by decide +kernel), List.mem_of_getElem? (i := 658) (by decide +kernel)⟩
theorem lw_p13 : lw_okq (⟨"BlockedCars$Law", "readBracket", "(LBlockedCars$Reader;I)V"⟩, 4) := ⟨⟨by decide +kernel, by decide +kernel⟩, List.mem_of_getElem? (i := 123) (by decide +kernel), List.mem_of_getElem? (i := 666) (by decide +kernel), List.mem_of_getElem? (i := 667) (by decide +kernel)⟩
theorem lw_p14 : lw_okq (⟨"BlockedCars$Law", "readTwo", "(LBlockedCars$Reader;II)V"⟩, 4) := ⟨⟨by decide +kernel, by decide +kernel⟩, List.mem_of_getElem? (i := 123) (by decide +kernel), List.mem_of_getElem? (i := 688) (by decide +kernel), List.mem_of_getElem? (i := 689) (by decide +kernel)⟩
theorem lw_p15 : lw_okq (⟨"BlockedCars$Work", "readSteps", "(LBlockedCars$Reader;LBlockedCars$Yard;I)V"⟩, 8) := ⟨⟨by decide +kernel, by decide +kernel⟩, List.mem_of_getElem? (i := 173) (by decide +kernel), List.mem_of_getElem? (i := 710) (by decide +kernel), List.mem_of_getElem? (i := 711) (by decide +kernel)⟩
def lw_privs_1 : List (MethodName × Nat) := [(⟨"BlockedCars$Law", "writeDefault", "()V"⟩, 4), (⟨"BlockedCars$Law", "write", "(I)V"⟩, 4), (⟨"BlockedCars", "need", "(Z)V"⟩, 16), (⟨"java/lang/Throwable", "fillInStackTrace", "(I)Ljava/lang/Throwable;"⟩, 6), (⟨"BlockedCars$Yard", "readClause", "(LBlockedCars$Reader;I)V"⟩, 11), (⟨"BlockedCars$Yard", "readLane", "(LBlockedCars$Reader;)V"⟩, 11), (⟨"BlockedCars$Yard", "readCar", "(LBlockedCars$Reader;)V"⟩, 11), (⟨"BlockedCars$Yard", "readKey", "(LBlockedCars$Reader;)V"⟩, 11), (⟨"BlockedCars$Yard", "order", "()V"⟩, 11), (⟨"BlockedCars$Yard", "isSooner", "(II)Z"⟩, 11), (⟨"BlockedCars$Law", "readSum", "(LBlockedCars$Reader;I)V"⟩, 4), (⟨"BlockedCars$Law", "readProduct", "(LBlockedCars$Reader;I)V"⟩, 4), (⟨"BlockedCars$Law", "readUnit", "(LBlockedCars$Reader;I)V"⟩, 4), (⟨"BlockedCars$Law", "readBracket", "(LBlockedCars$Reader;I)V"⟩, 4), (⟨"BlockedCars$Law", "readTwo", "(LBlockedCars$Reader;II)V"⟩, 4), (⟨"BlockedCars$Work", "readSteps", "(LBlockedCars$Reader;LBlockedCars$Yard;I)V"⟩, 8)]
theorem lw_r1 : ∀ q ∈ lw_privs_1, lw_okq q := List.forall_mem_cons.mpr ⟨lw_p0, List.forall_mem_cons.mpr ⟨lw_p1, List.forall_mem_cons.mpr ⟨lw_p2, List.forall_mem_cons.mpr ⟨lw_p3, List.forall_mem_cons.mpr ⟨lw_p4, List.forall_mem_cons.mpr ⟨lw_p5, List.forall_mem_cons.mpr ⟨lw_p6, List.forall_mem_cons.mpr ⟨lw_p7, List.forall_mem_cons.mpr ⟨lw_p8, List.forall_mem_cons.mpr ⟨lw_p9, List.forall_mem_cons.mpr ⟨lw_p10, List.forall_mem_cons.mpr ⟨lw_p11, List.forall_mem_cons.mpr ⟨lw_p12, List.forall_mem_cons.mpr ⟨lw_p13, List.forall_mem_cons.mpr ⟨lw_p14, List.forall_mem_cons.mpr ⟨lw_p15, fun _ h => absurd h List.not_mem_nil⟩⟩⟩⟩⟩⟩⟩⟩⟩⟩⟩⟩⟩⟩⟩⟩
theorem lw_p16 : lw_okq (⟨"BlockedCars$Work", "readStep", "(LBlockedCars$Reader;LBlockedCars$Yard;I)V"⟩, 8) := ⟨⟨by decide +kernel, by decide +kernel⟩, List.mem_of_getElem? (i := 173) (by decide +kernel), List.mem_of_getElem? (i := 717) (by decide +kernel), List.mem_of_getElem? (i := 718) (by decide +kernel)⟩
theorem lw_p17 : lw_okq (⟨"BlockedCars$Work", "write", "(IIII)V"⟩, 8) := ⟨⟨by decide +kernel, by decide +kernel⟩, List.mem_of_getElem? (i := 173) (by decide +kernel), List.mem_of_getElem? (i := 728) (by decide +kernel), List.mem_of_getElem? (i := 729) (by decide +kernel)⟩
theorem lw_p18 : lw_okq (⟨"BlockedCars$Work", "readAgain", "(LBlockedCars$Reader;LBlockedCars$Yard;I)V"⟩, 8) := ⟨⟨by decide +kernel, by decide +kernel⟩, List.mem_of_getElem? (i := 173) (by decide +kernel), List.mem_of_getElem? (i := 736) (by decide +kernel), List.mem_of_getElem? (i := 737) (by decide +kernel)⟩
theorem lw_p19 : lw_okq (⟨"BlockedCars$Work", "endRound", "(I)I"⟩, 8) := ⟨⟨by decide +kernel, by decide +kernel⟩, List.mem_of_getElem? (i := 173) (by decide +kernel), List.mem_of_getElem? (i := 757) (by decide +kernel), List.mem_of_getElem? (i := 758) (by decide +kernel)⟩
theorem lw_p20 : lw_okq (⟨"BlockedCars$Work", "doStep", "(ILBlockedCars$Yard;LBlockedCars$Law;LBlockedCars$Position;)Z"⟩, 8) := ⟨⟨by decide +kernel, by decide +kernel⟩, List.mem_of_getElem? (i := 173) (by decide +kernel), List.mem_of_getElem? (i := 761) (by decide +kernel), List.mem_of_getElem? (i := 762) (by decide +kernel)⟩
theorem lw_p21 : lw_okq (⟨"BlockedCars$Work", "move", "(ILBlockedCars$Yard;LBlockedCars$Law;LBlockedCars$Position;)Z"⟩, 8) := ⟨⟨by decide +kernel, by decide +kernel⟩, List.mem_of_getElem? (i := 173) (by decide +kernel), List.mem_of_getElem? (i := 800) (by decide +kernel), List.mem_of_getElem? (i := 801) (by decide +kernel)⟩
theorem lw_p22 : lw_okq (⟨"BlockedCars$Yard", "widestLane", "(J)I"⟩, 11) := ⟨⟨by decide +kernel, by decide +kernel⟩, List.mem_of_getElem? (i := 72) (by decide +kernel), List.mem_of_getElem? (i := 866) (by decide +kernel), List.mem_of_getElem? (i := 867) (by decide +kernel)⟩
theorem lw_p23 : lw_okq (⟨"BlockedCars$Work", "countStep", "(Z)V"⟩, 8) := ⟨⟨by decide +kernel, by decide +kernel⟩, List.mem_of_getElem? (i := 173) (by decide +kernel), List.mem_of_getElem? (i := 876) (by decide +kernel), List.mem_of_getElem? (i := 877) (by decide +kernel)⟩
theorem lw_p24 : lw_okq (⟨"BlockedCars$Spots", "readLine", "(LBlockedCars$Reader;LBlockedCars$Yard;)V"⟩, 5) := ⟨⟨by decide +kernel, by decide +kernel⟩, List.mem_of_getElem? (i := 150) (by decide +kernel), List.mem_of_getElem? (i := 894) (by decide +kernel), List.mem_of_getElem? (i := 895) (by decide +kernel)⟩
theorem lw_p25 : lw_okq (⟨"BlockedCars", "roomOfAll", "(J)I"⟩, 16) := ⟨⟨by decide +kernel, by decide +kernel⟩, List.mem_of_getElem? (i := 27) (by decide +kernel), List.mem_of_getElem? (i := 924) (by decide +kernel), List.mem_of_getElem? (i := 925) (by decide +kernel)⟩
theorem lw_p26 : lw_okq (⟨"BlockedCars", "needLane", "(I)V"⟩, 16) := ⟨⟨by decide +kernel, by decide +kernel⟩, List.mem_of_getElem? (i := 27) (by decide +kernel), List.mem_of_getElem? (i := 937) (by decide +kernel), List.mem_of_getElem? (i := 938) (by decide +kernel)⟩
theorem lw_p27 : lw_okq (⟨"BlockedCars", "needCar", "(I)V"⟩, 16) := ⟨⟨by decide +kernel, by decide +kernel⟩, List.mem_of_getElem? (i := 27) (by decide +kernel), List.mem_of_getElem? (i := 970) (by decide +kernel), List.mem_of_getElem? (i := 971) (by decide +kernel)⟩
theorem lw_p28 : lw_okq (⟨"BlockedCars$Search", "isReached", "(J)Z"⟩, 12) := ⟨⟨by decide +kernel, by decide +kernel⟩, List.mem_of_getElem? (i := 243) (by decide +kernel), List.mem_of_getElem? (i := 1043) (by decide +kernel), List.mem_of_getElem? (i := 1044) (by decide +kernel)⟩
theorem lw_p29 : lw_okq (⟨"BlockedCars$Search", "leastFrom", "(J)I"⟩, 12) := ⟨⟨by decide +kernel, by decide +kernel⟩, List.mem_of_getElem? (i := 243) (by decide +kernel), List.mem_of_getElem? (i := 1048) (by decide +kernel), List.mem_of_getElem? (i := 1049) (by decide +kernel)⟩
theorem lw_p30 : lw_okq (⟨"BlockedCars$Search", "spread", "(J)V"⟩, 12) := ⟨⟨by decide +kernel, by decide +kernel⟩, List.mem_of_getElem? (i := 243) (by decide +kernel), List.mem_of_getElem? (i := 1054) (by decide +kernel), List.mem_of_getElem? (i := 1055) (by decide +kernel)⟩
theorem lw_p31 : lw_okq (⟨"BlockedCars$Search", "keep", "(JI)V"⟩, 12) := ⟨⟨by decide +kernel, by decide +kernel⟩, List.mem_of_getElem? (i := 243) (by decide +kernel), List.mem_of_getElem? (i := 1062) (by decide +kernel), List.mem_of_getElem? (i := 1063) (by decide +kernel)⟩
def lw_privs_2 : List (MethodName × Nat) := [(⟨"BlockedCars$Work", "readStep", "(LBlockedCars$Reader;LBlockedCars$Yard;I)V"⟩, 8), (⟨"BlockedCars$Work", "write", "(IIII)V"⟩, 8), (⟨"BlockedCars$Work", "readAgain", "(LBlockedCars$Reader;LBlockedCars$Yard;I)V"⟩, 8), (⟨"BlockedCars$Work", "endRound", "(I)I"⟩, 8), (⟨"BlockedCars$Work", "doStep", "(ILBlockedCars$Yard;LBlockedCars$Law;LBlockedCars$Position;)Z"⟩, 8), (⟨"BlockedCars$Work", "move", "(ILBlockedCars$Yard;LBlockedCars$Law;LBlockedCars$Position;)Z"⟩, 8), (⟨"BlockedCars$Yard", "widestLane", "(J)I"⟩, 11), (⟨"BlockedCars$Work", "countStep", "(Z)V"⟩, 8), (⟨"BlockedCars$Spots", "readLine", "(LBlockedCars$Reader;LBlockedCars$Yard;)V"⟩, 5), (⟨"BlockedCars", "roomOfAll", "(J)I"⟩, 16), (⟨"BlockedCars", "needLane", "(I)V"⟩, 16), (⟨"BlockedCars", "needCar", "(I)V"⟩, 16), (⟨"BlockedCars$Search", "isReached", "(J)Z"⟩, 12), (⟨"BlockedCars$Search", "leastFrom", "(J)I"⟩, 12), (⟨"BlockedCars$Search", "spread", "(J)V"⟩, 12), (⟨"BlockedCars$Search", "keep", "(JI)V"⟩, 12)]
theorem lw_r2 : ∀ q ∈ lw_privs_2, lw_okq q := List.forall_mem_cons.mpr ⟨lw_p16, List.forall_mem_cons.mpr ⟨lw_p17, List.forall_mem_cons.mpr ⟨lw_p18, List.forall_mem_cons.mpr ⟨lw_p19, List.forall_mem_cons.mpr ⟨lw_p20, List.forall_mem_cons.mpr ⟨lw_p21, List.forall_mem_cons.mpr ⟨lw_p22, List.forall_mem_cons.mpr ⟨lw_p23, List.forall_mem_cons.mpr ⟨lw_p24, List.forall_mem_cons.mpr ⟨lw_p25, List.forall_mem_cons.mpr ⟨lw_p26, List.forall_mem_cons.mpr ⟨lw_p27, List.forall_mem_cons.mpr ⟨lw_p28, List.forall_mem_cons.mpr ⟨lw_p29, List.forall_mem_cons.mpr ⟨lw_p30, List.forall_mem_cons.mpr ⟨lw_p31, fun _ h => absurd h List.not_mem_nil⟩⟩⟩⟩⟩⟩⟩⟩⟩⟩⟩⟩⟩⟩⟩⟩
theorem lw_p32 : lw_okq (⟨"BlockedCars$Search", "moveFrom", "(II)V"⟩, 12) := ⟨⟨by decide +kernel, by decide +kernel⟩, List.mem_of_getElem? (i := 243) (by decide +kernel), List.mem_of_getElem? (i := 1067) (by decide +kernel), List.mem_of_getElem? (i := 1068) (by decide +kernel)⟩
theorem lw_p33 : lw_okq (⟨"BlockedCars$Search", "roomOf", "(JI)I"⟩, 12) := ⟨⟨by decide +kernel, by decide +kernel⟩, List.mem_of_getElem? (i := 243) (by decide +kernel), List.mem_of_getElem? (i := 1077) (by decide +kernel), List.mem_of_getElem? (i := 1078) (by decide +kernel)⟩
theorem lw_p34 : lw_okq (⟨"BlockedCars$Search", "arrive", "(JII)V"⟩, 12) := ⟨⟨by decide +kernel, by decide +kernel⟩, List.mem_of_getElem? (i := 243) (by decide +kernel), List.mem_of_getElem? (i := 1085) (by decide +kernel), List.mem_of_getElem? (i := 1086) (by decide +kernel)⟩
theorem lw_p35 : lw_okq (⟨"BlockedCars$Yard", "firstOtherLane", "(JII)I"⟩, 11) := ⟨⟨by decide +kernel, by decide +kernel⟩, List.mem_of_getElem? (i := 72) (by decide +kernel), List.mem_of_getElem? (i := 1119) (by decide +kernel), List.mem_of_getElem? (i := 1120) (by decide +kernel)⟩
theorem lw_p36 : lw_okq (⟨"BlockedCars", "areCars", "(I)Z"⟩, 16) := ⟨⟨by decide +kernel, by decide +kernel⟩, List.mem_of_getElem? (i := 27) (by decide +kernel), List.mem_of_getElem? (i := 1130) (by decide +kernel), List.mem_of_getElem? (i := 1131) (by decide +kernel)⟩
theorem lw_p37 : lw_okq (⟨"BlockedCars$Yard", "eveningBy", "(II)I"⟩, 11) := ⟨⟨by decide +kernel, by decide +kernel⟩, List.mem_of_getElem? (i := 72) (by decide +kernel), List.mem_of_getElem? (i := 1138) (by decide +kernel), List.mem_of_getElem? (i := 1139) (by decide +kernel)⟩
theorem lw_p38 : lw_okq (⟨"BlockedCars$Spots", "isRight", "(I)Z"⟩, 5) := ⟨⟨by decide +kernel, by decide +kernel⟩, List.mem_of_getElem? (i := 150) (by decide +kernel), List.mem_of_getElem? (i := 1166) (by decide +kernel), List.mem_of_getElem? (i := 1167) (by decide +kernel)⟩
theorem lw_p39 : lw_okq (⟨"BlockedCars$Days", "drawIll", "(LBlockedCars$Yard;I)I"⟩, 4) := ⟨⟨by decide +kernel, by decide +kernel⟩, List.mem_of_getElem? (i := 291) (by decide +kernel), List.mem_of_getElem? (i := 1254) (by decide +kernel), List.mem_of_getElem? (i := 1255) (by decide +kernel)⟩
theorem lw_p40 : lw_okq (⟨"BlockedCars$Days", "draw", "(I)I"⟩, 4) := ⟨⟨by decide +kernel, by decide +kernel⟩, List.mem_of_getElem? (i := 291) (by decide +kernel), List.mem_of_getElem? (i := 1258) (by decide +kernel), List.mem_of_getElem? (i := 1259) (by decide +kernel)⟩
theorem lw_p41 : lw_okq (⟨"BlockedCars$Days", "letLaneOut", "(II)V"⟩, 4) := ⟨⟨by decide +kernel, by decide +kernel⟩, List.mem_of_getElem? (i := 291) (by decide +kernel), List.mem_of_getElem? (i := 1264) (by decide +kernel), List.mem_of_getElem? (i := 1265) (by decide +kernel)⟩
theorem lw_p42 : lw_okq (⟨"BlockedCarsModel", "tellsNothing", "()V"⟩, 53) := ⟨⟨by decide +kernel, by decide +kernel⟩, List.mem_of_getElem? (i := 1279) (by decide +kernel), List.mem_of_getElem? (i := 1288) (by decide +kernel), List.mem_of_getElem? (i := 1289) (by decide +kernel)⟩
theorem lw_p43 : lw_okq (⟨"BlockedCarsModel", "beginsAnew", "()V"⟩, 53) := ⟨⟨by decide +kernel, by decide +kernel⟩, List.mem_of_getElem? (i := 1279) (by decide +kernel), List.mem_of_getElem? (i := 1292) (by decide +kernel), List.mem_of_getElem? (i := 1293) (by decide +kernel)⟩
theorem lw_p44 : lw_okq (⟨"BlockedCarsModel", "bad", "(ZII)Z"⟩, 53) := ⟨⟨by decide +kernel, by decide +kernel⟩, List.mem_of_getElem? (i := 1279) (by decide +kernel), List.mem_of_getElem? (i := 1474) (by decide +kernel), List.mem_of_getElem? (i := 1475) (by decide +kernel)⟩
theorem lw_p45 : lw_okq (⟨"BlockedCarsModel", "starts", "(I)V"⟩, 53) := ⟨⟨by decide +kernel, by decide +kernel⟩, List.mem_of_getElem? (i := 1279) (by decide +kernel), List.mem_of_getElem? (i := 1478) (by decide +kernel), List.mem_of_getElem? (i := 1479) (by decide +kernel)⟩
theorem lw_p46 : lw_okq (⟨"BlockedCarsModel", "blanks", "()V"⟩, 53) := ⟨⟨by decide +kernel, by decide +kernel⟩, List.mem_of_getElem? (i := 1279) (by decide +kernel), List.mem_of_getElem? (i := 1482) (by decide +kernel), List.mem_of_getElem? (i := 1483) (by decide +kernel)⟩
theorem lw_p47 : lw_okq (⟨"BlockedCarsModel", "byteAt", "(I)I"⟩, 53) := ⟨⟨by decide +kernel, by decide +kernel⟩, List.mem_of_getElem? (i := 1279) (by decide +kernel), List.mem_of_getElem? (i := 1486) (by decide +kernel), List.mem_of_getElem? (i := 1487) (by decide +kernel)⟩
def lw_privs_3 : List (MethodName × Nat) := [(⟨"BlockedCars$Search", "moveFrom", "(II)V"⟩, 12), (⟨"BlockedCars$Search", "roomOf", "(JI)I"⟩, 12), (⟨"BlockedCars$Search", "arrive", "(JII)V"⟩, 12), (⟨"BlockedCars$Yard", "firstOtherLane", "(JII)I"⟩, 11), (⟨"BlockedCars", "areCars", "(I)Z"⟩, 16), (⟨"BlockedCars$Yard", "eveningBy", "(II)I"⟩, 11), (⟨"BlockedCars$Spots", "isRight", "(I)Z"⟩, 5), (⟨"BlockedCars$Days", "drawIll", "(LBlockedCars$Yard;I)I"⟩, 4), (⟨"BlockedCars$Days", "draw", "(I)I"⟩, 4), (⟨"BlockedCars$Days", "letLaneOut", "(II)V"⟩, 4), (⟨"BlockedCarsModel", "tellsNothing", "()V"⟩, 53), (⟨"BlockedCarsModel", "beginsAnew", "()V"⟩, 53), (⟨"BlockedCarsModel", "bad", "(ZII)Z"⟩, 53), (⟨"BlockedCarsModel", "starts", "(I)V"⟩, 53), (⟨"BlockedCarsModel", "blanks", "()V"⟩, 53), (⟨"BlockedCarsModel", "byteAt", "(I)I"⟩, 53)]
theorem lw_r3 : ∀ q ∈ lw_privs_3, lw_okq q := List.forall_mem_cons.mpr ⟨lw_p32, List.forall_mem_cons.mpr ⟨lw_p33, List.forall_mem_cons.mpr ⟨lw_p34, List.forall_mem_cons.mpr ⟨lw_p35, List.forall_mem_cons.mpr ⟨lw_p36, List.forall_mem_cons.mpr ⟨lw_p37, List.forall_mem_cons.mpr ⟨lw_p38, List.forall_mem_cons.mpr ⟨lw_p39, List.forall_mem_cons.mpr ⟨lw_p40, List.forall_mem_cons.mpr ⟨lw_p41, List.forall_mem_cons.mpr ⟨lw_p42, List.forall_mem_cons.mpr ⟨lw_p43, List.forall_mem_cons.mpr ⟨lw_p44, List.forall_mem_cons.mpr ⟨lw_p45, List.forall_mem_cons.mpr ⟨lw_p46, List.forall_mem_cons.mpr ⟨lw_p47, fun _ h => absurd h List.not_mem_nil⟩⟩⟩⟩⟩⟩⟩⟩⟩⟩⟩⟩⟩⟩⟩⟩
theorem lw_p48 : lw_okq (⟨"BlockedCarsModel", "clause", "()V"⟩, 53) := ⟨⟨by decide +kernel, by decide +kernel⟩, List.mem_of_getElem? (i := 1279) (by decide +kernel), List.mem_of_getElem? (i := 1490) (by decide +kernel), List.mem_of_getElem? (i := 1491) (by decide +kernel)⟩
theorem lw_p49 : lw_okq (⟨"BlockedCarsModel", "kindHere", "()I"⟩, 53) := ⟨⟨by decide +kernel, by decide +kernel⟩, List.mem_of_getElem? (i := 1279) (by decide +kernel), List.mem_of_getElem? (i := 1494) (by decide +kernel), List.mem_of_getElem? (i := 1495) (by decide +kernel)⟩
theorem lw_p50 : lw_okq (⟨"BlockedCarsModel", "isWord", "(IIIIII)Z"⟩, 53) := ⟨⟨by decide +kernel, by decide +kernel⟩, List.mem_of_getElem? (i := 1279) (by decide +kernel), List.mem_of_getElem? (i := 1498) (by decide +kernel), List.mem_of_getElem? (i := 1499) (by decide +kernel)⟩
theorem lw_p51 : lw_okq (⟨"BlockedCarsModel", "wordHere", "()I"⟩, 53) := ⟨⟨by decide +kernel, by decide +kernel⟩, List.mem_of_getElem? (i := 1279) (by decide +kernel), List.mem_of_getElem? (i := 1502) (by decide +kernel), List.mem_of_getElem? (i := 1503) (by decide +kernel)⟩
theorem lw_p52 : lw_okq (⟨"BlockedCarsModel", "wrong", "(II)V"⟩, 53) := ⟨⟨by decide +kernel, by decide +kernel⟩, List.mem_of_getElem? (i := 1279) (by decide +kernel), List.mem_of_getElem? (i := 1512) (by decide +kernel), List.mem_of_getElem? (i := 1513) (by decide +kernel)⟩
theorem lw_p53 : lw_okq (⟨"BlockedCarsModel", "skipWord", "()V"⟩, 53) := ⟨⟨by decide +kernel, by decide +kernel⟩, List.mem_of_getElem? (i := 1279) (by decide +kernel), List.mem_of_getElem? (i := 1516) (by decide +kernel), List.mem_of_getElem? (i := 1517) (by decide +kernel)⟩
theorem lw_p54 : lw_okq (⟨"BlockedCarsModel", "number", "(II)I"⟩, 53) := ⟨⟨by decide +kernel, by decide +kernel⟩, List.mem_of_getElem? (i := 1279) (by decide +kernel), List.mem_of_getElem? (i := 1520) (by decide +kernel), List.mem_of_getElem? (i := 1521) (by decide +kernel)⟩
theorem lw_p55 : lw_okq (⟨"BlockedCarsModel", "sign", "(I)V"⟩, 53) := ⟨⟨by decide +kernel, by decide +kernel⟩, List.mem_of_getElem? (i := 1279) (by decide +kernel), List.mem_of_getElem? (i := 1528) (by decide +kernel), List.mem_of_getElem? (i := 1529) (by decide +kernel)⟩
theorem lw_p56 : lw_okq (⟨"BlockedCarsModel", "ends", "()I"⟩, 53) := ⟨⟨by decide +kernel, by decide +kernel⟩, List.mem_of_getElem? (i := 1279) (by decide +kernel), List.mem_of_getElem? (i := 1532) (by decide +kernel), List.mem_of_getElem? (i := 1533) (by decide +kernel)⟩
theorem lw_p57 : lw_okq (⟨"BlockedCarsModel", "sum", "()V"⟩, 53) := ⟨⟨by decide +kernel, by decide +kernel⟩, List.mem_of_getElem? (i := 1279) (by decide +kernel), List.mem_of_getElem? (i := 1540) (by decide +kernel), List.mem_of_getElem? (i := 1541) (by decide +kernel)⟩
theorem lw_p58 : lw_okq (⟨"BlockedCarsModel", "product", "()V"⟩, 53) := ⟨⟨by decide +kernel, by decide +kernel⟩, List.mem_of_getElem? (i := 1279) (by decide +kernel), List.mem_of_getElem? (i := 1544) (by decide +kernel), List.mem_of_getElem? (i := 1545) (by decide +kernel)⟩
theorem lw_p59 : lw_okq (⟨"BlockedCarsModel", "one", "()V"⟩, 53) := ⟨⟨by decide +kernel, by decide +kernel⟩, List.mem_of_getElem? (i := 1279) (by decide +kernel), List.mem_of_getElem? (i := 1548) (by decide +kernel), List.mem_of_getElem? (i := 1549) (by decide +kernel)⟩
theorem lw_p60 : lw_okq (⟨"BlockedCarsModel", "opensOne", "()Z"⟩, 53) := ⟨⟨by decide +kernel, by decide +kernel⟩, List.mem_of_getElem? (i := 1279) (by decide +kernel), List.mem_of_getElem? (i := 1552) (by decide +kernel), List.mem_of_getElem? (i := 1553) (by decide +kernel)⟩
theorem lw_p61 : lw_okq (⟨"BlockedCarsModel", "notes", "(II)V"⟩, 53) := ⟨⟨by decide +kernel, by decide +kernel⟩, List.mem_of_getElem? (i := 1279) (by decide +kernel), List.mem_of_getElem? (i := 1556) (by decide +kernel), List.mem_of_getElem? (i := 1557) (by decide +kernel)⟩
theorem lw_p62 : lw_okq (⟨"BlockedCarsModel", "knownHere", "()I"⟩, 53) := ⟨⟨by decide +kernel, by decide +kernel⟩, List.mem_of_getElem? (i := 1279) (by decide +kernel), List.mem_of_getElem? (i := 1560) (by decide +kernel), List.mem_of_getElem? (i := 1561) (by decide +kernel)⟩
theorem lw_p63 : lw_okq (⟨"BlockedCarsModel", "takes", "(IIIIII)Z"⟩, 53) := ⟨⟨by decide +kernel, by decide +kernel⟩, List.mem_of_getElem? (i := 1279) (by decide +kernel), List.mem_of_getElem? (i := 1564) (by decide +kernel), List.mem_of_getElem? (i := 1565) (by decide +kernel)⟩
def lw_privs_4 : List (MethodName × Nat) := [(⟨"BlockedCarsModel", "clause", "()V"⟩, 53), (⟨"BlockedCarsModel", "kindHere", "()I"⟩, 53), (⟨"BlockedCarsModel", "isWord", "(IIIIII)Z"⟩, 53), (⟨"BlockedCarsModel", "wordHere", "()I"⟩, 53), (⟨"BlockedCarsModel", "wrong", "(II)V"⟩, 53), (⟨"BlockedCarsModel", "skipWord", "()V"⟩, 53), (⟨"BlockedCarsModel", "number", "(II)I"⟩, 53), (⟨"BlockedCarsModel", "sign", "(I)V"⟩, 53), (⟨"BlockedCarsModel", "ends", "()I"⟩, 53), (⟨"BlockedCarsModel", "sum", "()V"⟩, 53), (⟨"BlockedCarsModel", "product", "()V"⟩, 53), (⟨"BlockedCarsModel", "one", "()V"⟩, 53), (⟨"BlockedCarsModel", "opensOne", "()Z"⟩, 53), (⟨"BlockedCarsModel", "notes", "(II)V"⟩, 53), (⟨"BlockedCarsModel", "knownHere", "()I"⟩, 53), (⟨"BlockedCarsModel", "takes", "(IIIIII)Z"⟩, 53)]
theorem lw_r4 : ∀ q ∈ lw_privs_4, lw_okq q := List.forall_mem_cons.mpr ⟨lw_p48, List.forall_mem_cons.mpr ⟨lw_p49, List.forall_mem_cons.mpr ⟨lw_p50, List.forall_mem_cons.mpr ⟨lw_p51, List.forall_mem_cons.mpr ⟨lw_p52, List.forall_mem_cons.mpr ⟨lw_p53, List.forall_mem_cons.mpr ⟨lw_p54, List.forall_mem_cons.mpr ⟨lw_p55, List.forall_mem_cons.mpr ⟨lw_p56, List.forall_mem_cons.mpr ⟨lw_p57, List.forall_mem_cons.mpr ⟨lw_p58, List.forall_mem_cons.mpr ⟨lw_p59, List.forall_mem_cons.mpr ⟨lw_p60, List.forall_mem_cons.mpr ⟨lw_p61, List.forall_mem_cons.mpr ⟨lw_p62, List.forall_mem_cons.mpr ⟨lw_p63, fun _ h => absurd h List.not_mem_nil⟩⟩⟩⟩⟩⟩⟩⟩⟩⟩⟩⟩⟩⟩⟩⟩
theorem lw_p64 : lw_okq (⟨"BlockedCarsModel", "takesSign", "(I)Z"⟩, 53) := ⟨⟨by decide +kernel, by decide +kernel⟩, List.mem_of_getElem? (i := 1279) (by decide +kernel), List.mem_of_getElem? (i := 1568) (by decide +kernel), List.mem_of_getElem? (i := 1569) (by decide +kernel)⟩
theorem lw_p65 : lw_okq (⟨"BlockedCarsModel", "readsStep", "()V"⟩, 53) := ⟨⟨by decide +kernel, by decide +kernel⟩, List.mem_of_getElem? (i := 1279) (by decide +kernel), List.mem_of_getElem? (i := 1587) (by decide +kernel), List.mem_of_getElem? (i := 1588) (by decide +kernel)⟩
theorem lw_p66 : lw_okq (⟨"BlockedCarsModel", "stepHere", "()I"⟩, 53) := ⟨⟨by decide +kernel, by decide +kernel⟩, List.mem_of_getElem? (i := 1279) (by decide +kernel), List.mem_of_getElem? (i := 1591) (by decide +kernel), List.mem_of_getElem? (i := 1592) (by decide +kernel)⟩
theorem lw_p67 : lw_okq (⟨"BlockedCarsModel", "goesOn", "(II)V"⟩, 53) := ⟨⟨by decide +kernel, by decide +kernel⟩, List.mem_of_getElem? (i := 1279) (by decide +kernel), List.mem_of_getElem? (i := 1598) (by decide +kernel), List.mem_of_getElem? (i := 1599) (by decide +kernel)⟩
theorem lw_p68 : lw_okq (⟨"BlockedCarsModel", "does", "([I[I)Z"⟩, 53) := ⟨⟨by decide +kernel, by decide +kernel⟩, List.mem_of_getElem? (i := 1279) (by decide +kernel), List.mem_of_getElem? (i := 1602) (by decide +kernel), List.mem_of_getElem? (i := 1603) (by decide +kernel)⟩
theorem lw_p69 : lw_okq (⟨"BlockedCarsModel", "laneOf", "([II)I"⟩, 53) := ⟨⟨by decide +kernel, by decide +kernel⟩, List.mem_of_getElem? (i := 1279) (by decide +kernel), List.mem_of_getElem? (i := 1606) (by decide +kernel), List.mem_of_getElem? (i := 1607) (by decide +kernel)⟩
theorem lw_p70 : lw_okq (⟨"BlockedCarsModel", "roomOf", "([II)I"⟩, 53) := ⟨⟨by decide +kernel, by decide +kernel⟩, List.mem_of_getElem? (i := 1279) (by decide +kernel), List.mem_of_getElem? (i := 1613) (by decide +kernel), List.mem_of_getElem? (i := 1614) (by decide +kernel)⟩
theorem lw_p71 : lw_okq (⟨"BlockedCarsModel", "comesTo", "([III)V"⟩, 53) := ⟨⟨by decide +kernel, by decide +kernel⟩, List.mem_of_getElem? (i := 1279) (by decide +kernel), List.mem_of_getElem? (i := 1617) (by decide +kernel), List.mem_of_getElem? (i := 1618) (by decide +kernel)⟩
theorem lw_p72 : lw_okq (⟨"BlockedCarsModel", "moves", "([IIII)Z"⟩, 53) := ⟨⟨by decide +kernel, by decide +kernel⟩, List.mem_of_getElem? (i := 1279) (by decide +kernel), List.mem_of_getElem? (i := 1621) (by decide +kernel), List.mem_of_getElem? (i := 1622) (by decide +kernel)⟩
theorem lw_p73 : lw_okq (⟨"BlockedCarsModel", "secondsOf", "([III)I"⟩, 53) := ⟨⟨by decide +kernel, by decide +kernel⟩, List.mem_of_getElem? (i := 1279) (by decide +kernel), List.mem_of_getElem? (i := 1628) (by decide +kernel), List.mem_of_getElem? (i := 1629) (by decide +kernel)⟩
theorem lw_p74 : lw_okq (⟨"BlockedCarsModel", "byLaw", "()I"⟩, 53) := ⟨⟨by decide +kernel, by decide +kernel⟩, List.mem_of_getElem? (i := 1279) (by decide +kernel), List.mem_of_getElem? (i := 1632) (by decide +kernel), List.mem_of_getElem? (i := 1633) (by decide +kernel)⟩
theorem lw_p75 : lw_okq (⟨"BlockedCarsModel", "swaps", "([I)Z"⟩, 53) := ⟨⟨by decide +kernel, by decide +kernel⟩, List.mem_of_getElem? (i := 1279) (by decide +kernel), List.mem_of_getElem? (i := 1645) (by decide +kernel), List.mem_of_getElem? (i := 1646) (by decide +kernel)⟩
theorem lw_p76 : lw_okq (⟨"BlockedCarsModel", "latestOut", "([II)I"⟩, 53) := ⟨⟨by decide +kernel, by decide +kernel⟩, List.mem_of_getElem? (i := 1279) (by decide +kernel), List.mem_of_getElem? (i := 1649) (by decide +kernel), List.mem_of_getElem? (i := 1650) (by decide +kernel)⟩
theorem lw_p77 : lw_okq (⟨"BlockedCarsModel", "insideOf", "([I)I"⟩, 53) := ⟨⟨by decide +kernel, by decide +kernel⟩, List.mem_of_getElem? (i := 1279) (by decide +kernel), List.mem_of_getElem? (i := 1653) (by decide +kernel), List.mem_of_getElem? (i := 1654) (by decide +kernel)⟩
theorem lw_p78 : lw_okq (⟨"BlockedCarsModel", "roomiest", "([I)I"⟩, 53) := ⟨⟨by decide +kernel, by decide +kernel⟩, List.mem_of_getElem? (i := 1279) (by decide +kernel), List.mem_of_getElem? (i := 1657) (by decide +kernel), List.mem_of_getElem? (i := 1658) (by decide +kernel)⟩
theorem lw_p79 : lw_okq (⟨"BlockedCarsModel", "pairsIn", "([I)I"⟩, 53) := ⟨⟨by decide +kernel, by decide +kernel⟩, List.mem_of_getElem? (i := 1279) (by decide +kernel), List.mem_of_getElem? (i := 1669) (by decide +kernel), List.mem_of_getElem? (i := 1670) (by decide +kernel)⟩
def lw_privs_5 : List (MethodName × Nat) := [(⟨"BlockedCarsModel", "takesSign", "(I)Z"⟩, 53), (⟨"BlockedCarsModel", "readsStep", "()V"⟩, 53), (⟨"BlockedCarsModel", "stepHere", "()I"⟩, 53), (⟨"BlockedCarsModel", "goesOn", "(II)V"⟩, 53), (⟨"BlockedCarsModel", "does", "([I[I)Z"⟩, 53), (⟨"BlockedCarsModel", "laneOf", "([II)I"⟩, 53), (⟨"BlockedCarsModel", "roomOf", "([II)I"⟩, 53), (⟨"BlockedCarsModel", "comesTo", "([III)V"⟩, 53), (⟨"BlockedCarsModel", "moves", "([IIII)Z"⟩, 53), (⟨"BlockedCarsModel", "secondsOf", "([III)I"⟩, 53), (⟨"BlockedCarsModel", "byLaw", "()I"⟩, 53), (⟨"BlockedCarsModel", "swaps", "([I)Z"⟩, 53), (⟨"BlockedCarsModel", "latestOut", "([II)I"⟩, 53), (⟨"BlockedCarsModel", "insideOf", "([I)I"⟩, 53), (⟨"BlockedCarsModel", "roomiest", "([I)I"⟩, 53), (⟨"BlockedCarsModel", "pairsIn", "([I)I"⟩, 53)]
theorem lw_r5 : ∀ q ∈ lw_privs_5, lw_okq q := List.forall_mem_cons.mpr ⟨lw_p64, List.forall_mem_cons.mpr ⟨lw_p65, List.forall_mem_cons.mpr ⟨lw_p66, List.forall_mem_cons.mpr ⟨lw_p67, List.forall_mem_cons.mpr ⟨lw_p68, List.forall_mem_cons.mpr ⟨lw_p69, List.forall_mem_cons.mpr ⟨lw_p70, List.forall_mem_cons.mpr ⟨lw_p71, List.forall_mem_cons.mpr ⟨lw_p72, List.forall_mem_cons.mpr ⟨lw_p73, List.forall_mem_cons.mpr ⟨lw_p74, List.forall_mem_cons.mpr ⟨lw_p75, List.forall_mem_cons.mpr ⟨lw_p76, List.forall_mem_cons.mpr ⟨lw_p77, List.forall_mem_cons.mpr ⟨lw_p78, List.forall_mem_cons.mpr ⟨lw_p79, fun _ h => absurd h List.not_mem_nil⟩⟩⟩⟩⟩⟩⟩⟩⟩⟩⟩⟩⟩⟩⟩⟩
theorem lw_p80 : lw_okq (⟨"BlockedCarsModel", "isLater", "(II)Z"⟩, 53) := ⟨⟨by decide +kernel, by decide +kernel⟩, List.mem_of_getElem? (i := 1279) (by decide +kernel), List.mem_of_getElem? (i := 1673) (by decide +kernel), List.mem_of_getElem? (i := 1674) (by decide +kernel)⟩
theorem lw_p81 : lw_okq (⟨"BlockedCarsModel", "isLane", "(I)Z"⟩, 53) := ⟨⟨by decide +kernel, by decide +kernel⟩, List.mem_of_getElem? (i := 1279) (by decide +kernel), List.mem_of_getElem? (i := 1681) (by decide +kernel), List.mem_of_getElem? (i := 1682) (by decide +kernel)⟩
theorem lw_p82 : lw_okq (⟨"BlockedCarsModel", "isCar", "(I)Z"⟩, 53) := ⟨⟨by decide +kernel, by decide +kernel⟩, List.mem_of_getElem? (i := 1279) (by decide +kernel), List.mem_of_getElem? (i := 1689) (by decide +kernel), List.mem_of_getElem? (i := 1690) (by decide +kernel)⟩
theorem lw_p83 : lw_okq (⟨"BlockedCarsModel", "firstPlace", "(I)I"⟩, 53) := ⟨⟨by decide +kernel, by decide +kernel⟩, List.mem_of_getElem? (i := 1279) (by decide +kernel), List.mem_of_getElem? (i := 1693) (by decide +kernel), List.mem_of_getElem? (i := 1694) (by decide +kernel)⟩
theorem lw_p84 : lw_okq (⟨"BlockedCarsModel", "rankOf", "([II)I"⟩, 53) := ⟨⟨by decide +kernel, by decide +kernel⟩, List.mem_of_getElem? (i := 1279) (by decide +kernel), List.mem_of_getElem? (i := 1697) (by decide +kernel), List.mem_of_getElem? (i := 1698) (by decide +kernel)⟩
theorem lw_p85 : lw_okq (⟨"BlockedCarsModel", "onPlace", "(II)I"⟩, 53) := ⟨⟨by decide +kernel, by decide +kernel⟩, List.mem_of_getElem? (i := 1279) (by decide +kernel), List.mem_of_getElem? (i := 1705) (by decide +kernel), List.mem_of_getElem? (i := 1706) (by decide +kernel)⟩
theorem lw_p86 : lw_okq (⟨"BlockedCarsModel", "aheadOf", "(I)I"⟩, 53) := ⟨⟨by decide +kernel, by decide +kernel⟩, List.mem_of_getElem? (i := 1279) (by decide +kernel), List.mem_of_getElem? (i := 1721) (by decide +kernel), List.mem_of_getElem? (i := 1722) (by decide +kernel)⟩
theorem lw_p87 : lw_okq (⟨"BlockedCarsModel", "fewest", "([II)I"⟩, 53) := ⟨⟨by decide +kernel, by decide +kernel⟩, List.mem_of_getElem? (i := 1279) (by decide +kernel), List.mem_of_getElem? (i := 1729) (by decide +kernel), List.mem_of_getElem? (i := 1730) (by decide +kernel)⟩
theorem lw_p88 : lw_okq (⟨"BlockedCarsModel", "leaveAll", "([I)V"⟩, 53) := ⟨⟨by decide +kernel, by decide +kernel⟩, List.mem_of_getElem? (i := 1279) (by decide +kernel), List.mem_of_getElem? (i := 1733) (by decide +kernel), List.mem_of_getElem? (i := 1734) (by decide +kernel)⟩
theorem lw_p89 : lw_okq (⟨"BlockedCarsModel", "earliest", "([I)I"⟩, 53) := ⟨⟨by decide +kernel, by decide +kernel⟩, List.mem_of_getElem? (i := 1279) (by decide +kernel), List.mem_of_getElem? (i := 1737) (by decide +kernel), List.mem_of_getElem? (i := 1738) (by decide +kernel)⟩
theorem lw_p90 : lw_okq (⟨"BlockedCarsModel", "asNumber", "([I)I"⟩, 53) := ⟨⟨by decide +kernel, by decide +kernel⟩, List.mem_of_getElem? (i := 1279) (by decide +kernel), List.mem_of_getElem? (i := 1741) (by decide +kernel), List.mem_of_getElem? (i := 1742) (by decide +kernel)⟩
theorem lw_p91 : lw_okq (⟨"BlockedCarsModel", "placeOf", "(I)I"⟩, 53) := ⟨⟨by decide +kernel, by decide +kernel⟩, List.mem_of_getElem? (i := 1279) (by decide +kernel), List.mem_of_getElem? (i := 1745) (by decide +kernel), List.mem_of_getElem? (i := 1746) (by decide +kernel)⟩
theorem lw_p92 : lw_okq (⟨"BlockedCarsModel", "asRow", "(I[I)V"⟩, 53) := ⟨⟨by decide +kernel, by decide +kernel⟩, List.mem_of_getElem? (i := 1279) (by decide +kernel), List.mem_of_getElem? (i := 1749) (by decide +kernel), List.mem_of_getElem? (i := 1750) (by decide +kernel)⟩
theorem lw_p93 : lw_okq (⟨"BlockedCarsModel", "isGoal", "([II)Z"⟩, 53) := ⟨⟨by decide +kernel, by decide +kernel⟩, List.mem_of_getElem? (i := 1279) (by decide +kernel), List.mem_of_getElem? (i := 1753) (by decide +kernel), List.mem_of_getElem? (i := 1754) (by decide +kernel)⟩
theorem lw_p94 : lw_okq (⟨"BlockedCarsModel", "takesOut", "([II)V"⟩, 53) := ⟨⟨by decide +kernel, by decide +kernel⟩, List.mem_of_getElem? (i := 1279) (by decide +kernel), List.mem_of_getElem? (i := 1765) (by decide +kernel), List.mem_of_getElem? (i := 1766) (by decide +kernel)⟩
theorem lw_p95 : lw_okq (⟨"BlockedCarsModel", "areCars", "(I)Z"⟩, 53) := ⟨⟨by decide +kernel, by decide +kernel⟩, List.mem_of_getElem? (i := 1279) (by decide +kernel), List.mem_of_getElem? (i := 1781) (by decide +kernel), List.mem_of_getElem? (i := 1782) (by decide +kernel)⟩
def lw_privs_6 : List (MethodName × Nat) := [(⟨"BlockedCarsModel", "isLater", "(II)Z"⟩, 53), (⟨"BlockedCarsModel", "isLane", "(I)Z"⟩, 53), (⟨"BlockedCarsModel", "isCar", "(I)Z"⟩, 53), (⟨"BlockedCarsModel", "firstPlace", "(I)I"⟩, 53), (⟨"BlockedCarsModel", "rankOf", "([II)I"⟩, 53), (⟨"BlockedCarsModel", "onPlace", "(II)I"⟩, 53), (⟨"BlockedCarsModel", "aheadOf", "(I)I"⟩, 53), (⟨"BlockedCarsModel", "fewest", "([II)I"⟩, 53), (⟨"BlockedCarsModel", "leaveAll", "([I)V"⟩, 53), (⟨"BlockedCarsModel", "earliest", "([I)I"⟩, 53), (⟨"BlockedCarsModel", "asNumber", "([I)I"⟩, 53), (⟨"BlockedCarsModel", "placeOf", "(I)I"⟩, 53), (⟨"BlockedCarsModel", "asRow", "(I[I)V"⟩, 53), (⟨"BlockedCarsModel", "isGoal", "([II)Z"⟩, 53), (⟨"BlockedCarsModel", "takesOut", "([II)V"⟩, 53), (⟨"BlockedCarsModel", "areCars", "(I)Z"⟩, 53)]
theorem lw_r6 : ∀ q ∈ lw_privs_6, lw_okq q := List.forall_mem_cons.mpr ⟨lw_p80, List.forall_mem_cons.mpr ⟨lw_p81, List.forall_mem_cons.mpr ⟨lw_p82, List.forall_mem_cons.mpr ⟨lw_p83, List.forall_mem_cons.mpr ⟨lw_p84, List.forall_mem_cons.mpr ⟨lw_p85, List.forall_mem_cons.mpr ⟨lw_p86, List.forall_mem_cons.mpr ⟨lw_p87, List.forall_mem_cons.mpr ⟨lw_p88, List.forall_mem_cons.mpr ⟨lw_p89, List.forall_mem_cons.mpr ⟨lw_p90, List.forall_mem_cons.mpr ⟨lw_p91, List.forall_mem_cons.mpr ⟨lw_p92, List.forall_mem_cons.mpr ⟨lw_p93, List.forall_mem_cons.mpr ⟨lw_p94, List.forall_mem_cons.mpr ⟨lw_p95, fun _ h => absurd h List.not_mem_nil⟩⟩⟩⟩⟩⟩⟩⟩⟩⟩⟩⟩⟩⟩⟩⟩
theorem lw_p96 : lw_okq (⟨"BlockedCarsModel", "comeHome", "([IIII)V"⟩, 53) := ⟨⟨by decide +kernel, by decide +kernel⟩, List.mem_of_getElem? (i := 1279) (by decide +kernel), List.mem_of_getElem? (i := 1785) (by decide +kernel), List.mem_of_getElem? (i := 1786) (by decide +kernel)⟩
theorem lw_p97 : lw_okq (⟨"BlockedCarsModel", "isLeak", "(I)Z"⟩, 53) := ⟨⟨by decide +kernel, by decide +kernel⟩, List.mem_of_getElem? (i := 1279) (by decide +kernel), List.mem_of_getElem? (i := 1797) (by decide +kernel), List.mem_of_getElem? (i := 1798) (by decide +kernel)⟩
theorem lw_p98 : lw_okq (⟨"BlockedCarsModel", "isOil", "(III)Z"⟩, 53) := ⟨⟨by decide +kernel, by decide +kernel⟩, List.mem_of_getElem? (i := 1279) (by decide +kernel), List.mem_of_getElem? (i := 1801) (by decide +kernel), List.mem_of_getElem? (i := 1802) (by decide +kernel)⟩
theorem lw_p99 : lw_okq (⟨"BlockedCarsModel", "isTold", "(II)Z"⟩, 53) := ⟨⟨by decide +kernel, by decide +kernel⟩, List.mem_of_getElem? (i := 1279) (by decide +kernel), List.mem_of_getElem? (i := 1809) (by decide +kernel), List.mem_of_getElem? (i := 1810) (by decide +kernel)⟩
theorem lw_p100 : lw_okq (⟨"BlockedCarsModel", "givenBy", "(II)I"⟩, 53) := ⟨⟨by decide +kernel, by decide +kernel⟩, List.mem_of_getElem? (i := 1279) (by decide +kernel), List.mem_of_getElem? (i := 1827) (by decide +kernel), List.mem_of_getElem? (i := 1828) (by decide +kernel)⟩
theorem lw_p101 : lw_okq (⟨"BlockedCarsModel", "daysBy", "(III)V"⟩, 53) := ⟨⟨by decide +kernel, by decide +kernel⟩, List.mem_of_getElem? (i := 1279) (by decide +kernel), List.mem_of_getElem? (i := 1846) (by decide +kernel), List.mem_of_getElem? (i := 1847) (by decide +kernel)⟩
theorem lw_p102 : lw_okq (⟨"BlockedCarsModel", "draw", "(I)I"⟩, 53) := ⟨⟨by decide +kernel, by decide +kernel⟩, List.mem_of_getElem? (i := 1279) (by decide +kernel), List.mem_of_getElem? (i := 1850) (by decide +kernel), List.mem_of_getElem? (i := 1851) (by decide +kernel)⟩
theorem lw_p103 : lw_okq (⟨"BlockedCarsModel", "putsAll", "([IZ)V"⟩, 53) := ⟨⟨by decide +kernel, by decide +kernel⟩, List.mem_of_getElem? (i := 1279) (by decide +kernel), List.mem_of_getElem? (i := 1863) (by decide +kernel), List.mem_of_getElem? (i := 1864) (by decide +kernel)⟩
theorem lw_p104 : lw_okq (⟨"BlockedCarsModel", "puts", "([IIZ)I"⟩, 53) := ⟨⟨by decide +kernel, by decide +kernel⟩, List.mem_of_getElem? (i := 1279) (by decide +kernel), List.mem_of_getElem? (i := 1867) (by decide +kernel), List.mem_of_getElem? (i := 1868) (by decide +kernel)⟩
def lw_privs_7 : List (MethodName × Nat) := [(⟨"BlockedCarsModel", "comeHome", "([IIII)V"⟩, 53), (⟨"BlockedCarsModel", "isLeak", "(I)Z"⟩, 53), (⟨"BlockedCarsModel", "isOil", "(III)Z"⟩, 53), (⟨"BlockedCarsModel", "isTold", "(II)Z"⟩, 53), (⟨"BlockedCarsModel", "givenBy", "(II)I"⟩, 53), (⟨"BlockedCarsModel", "daysBy", "(III)V"⟩, 53), (⟨"BlockedCarsModel", "draw", "(I)I"⟩, 53), (⟨"BlockedCarsModel", "putsAll", "([IZ)V"⟩, 53), (⟨"BlockedCarsModel", "puts", "([IIZ)I"⟩, 53)]
theorem lw_r7 : ∀ q ∈ lw_privs_7, lw_okq q := List.forall_mem_cons.mpr ⟨lw_p96, List.forall_mem_cons.mpr ⟨lw_p97, List.forall_mem_cons.mpr ⟨lw_p98, List.forall_mem_cons.mpr ⟨lw_p99, List.forall_mem_cons.mpr ⟨lw_p100, List.forall_mem_cons.mpr ⟨lw_p101, List.forall_mem_cons.mpr ⟨lw_p102, List.forall_mem_cons.mpr ⟨lw_p103, List.forall_mem_cons.mpr ⟨lw_p104, fun _ h => absurd h List.not_mem_nil⟩⟩⟩⟩⟩⟩⟩⟩⟩
def lw_privs : List (MethodName × Nat) := lw_privs_1 ++ (lw_privs_2 ++ (lw_privs_3 ++ (lw_privs_4 ++ (lw_privs_5 ++ (lw_privs_6 ++ (lw_privs_7))))))
def lw_tbl : List Cond := k2_sels lw_privs ++ tables_1
theorem lw_privs_ok : ∀ q ∈ lw_privs, lw_okq q := by
  show ∀ q ∈ lw_privs_1 ++ (lw_privs_2 ++ (lw_privs_3 ++ (lw_privs_4 ++ (lw_privs_5 ++ (lw_privs_6 ++ (lw_privs_7)))))), lw_okq q
  exact List.forall_mem_append.mpr ⟨lw_r1, List.forall_mem_append.mpr ⟨lw_r2, List.forall_mem_append.mpr ⟨lw_r3, List.forall_mem_append.mpr ⟨lw_r4, List.forall_mem_append.mpr ⟨lw_r5, List.forall_mem_append.mpr ⟨lw_r6, lw_r7⟩⟩⟩⟩⟩⟩
/-! ===== BEGIN words of one list among another's, by their places ===== -/
theorem goodIn_r {big : List Cond} (ws : List Cond) (ps : List Nat) (hp : ws = ps.filterMap (fun i => big[i]?)) (h : ws.all goodWord = true) : GoodIn big ws := by
  intro w hw
  have h1 := List.all_eq_true.mp h w hw
  rw [hp] at hw
  obtain ⟨i, -, hi⟩ := List.mem_filterMap.mp hw
  have hm : w ∈ big := by first | exact List.mem_of_getElem? hi | exact List.getElem?_mem hi
  exact ⟨hm, good_of_word h1⟩
theorem goodIn_app {big a b : List Cond} (ha : GoodIn big a) (hb : GoodIn big b) : GoodIn big (a ++ b) := fun w h => (List.mem_append.mp h).elim (ha w) (hb w)
theorem goodIn_ca {big a b : List Cond} {c : Cond} (ha : GoodIn big (c :: a)) (hb : GoodIn big b) : GoodIn big (c :: (a ++ b)) := fun w h => (List.mem_cons.mp h).elim (fun e => ha w (List.mem_cons.mpr (Or.inl e))) (fun h => (List.mem_append.mp h).elim (fun h => ha w (List.mem_cons.mpr (Or.inr h))) (hb w))
theorem goodIn_sub {big ws : List Cond} (hm : ∀ w ∈ ws, w ∈ big) (h : ws.all goodWord = true) : GoodIn big ws := fun w hw => ⟨hm w hw, good_of_word (List.all_eq_true.mp h w hw)⟩
/-! ===== END ===== -/

/-! ===== BEGIN printed: names, fields, word lists, decode rows ===== -/
def RX0 : String := "BlockedCars$Days"
def TX0 : u_T := fun k => match k with
  | 0 => ("BlockedCars$Days", "seed", "I", false)
  | 1 => ("BlockedCars$Days", "stand", "J", false)
  | 2 => ("BlockedCars$Days", "left", "I", false)
  | _ => ("BlockedCars$Days", "ill", "I", false)
def tyX0 : Nat → FieldType := fun k => match k with
  | 0 => .int
  | 1 => .long
  | 2 => .int
  | _ => .int
abbrev wsX00 : List Cond := u_ws RX0 TX0 4
theorem nmX0 : ∀ a, a < 4 → ∀ b, b < 4 → a ≠ b → (TX0 a).2.1 ≠ (TX0 b).2.1 := by decide +kernel
theorem tyX0_ok : ∀ k, k < 4 → parseFieldDescriptor (TX0 k).2.2.1 = some (tyX0 k) := by decide +kernel
abbrev cX0_init : ByteArray := prog_2_method_1_code
def yX0_init : MethodName := ⟨RX0, "<init>", "()V"⟩
abbrev cX0_run : ByteArray := prog_2_method_2_code
def yX0_run : MethodName := ⟨RX0, "run", "(LBlockedCars$Yard;JIII)V"⟩
abbrev cX0_drawIll : ByteArray := prog_2_method_3_code
def yX0_drawIll : MethodName := ⟨RX0, "drawIll", "(LBlockedCars$Yard;I)I"⟩
abbrev cX0_draw : ByteArray := prog_2_method_4_code
def yX0_draw : MethodName := ⟨RX0, "draw", "(I)I"⟩
abbrev cX0_letLaneOut : ByteArray := prog_2_method_5_code
def yX0_letLaneOut : MethodName := ⟨RX0, "letLaneOut", "(II)V"⟩
def RX1 : String := "BlockedCars$Law"
def TX1 : u_T := fun k => match k with
  | 0 => ("BlockedCars$Law", "code", "[I", true)
  | 1 => ("BlockedCars$Law", "values", "[I", true)
  | 2 => ("BlockedCars$Law", "facts", "[I", true)
  | _ => ("BlockedCars$Law", "size", "I", false)
def tyX1 : Nat → FieldType := fun k => match k with
  | 0 => .array .int
  | 1 => .array .int
  | 2 => .array .int
  | _ => .int
abbrev wsX10 : List Cond := u_ws RX1 TX1 4
theorem nmX1 : ∀ a, a < 4 → ∀ b, b < 4 → a ≠ b → (TX1 a).2.1 ≠ (TX1 b).2.1 := by decide +kernel
theorem tyX1_ok : ∀ k, k < 4 → parseFieldDescriptor (TX1 k).2.2.1 = some (tyX1 k) := by decide +kernel
abbrev cX1_init : ByteArray := prog_3_method_1_code
def yX1_init : MethodName := ⟨RX1, "<init>", "()V"⟩
abbrev cX1_clear : ByteArray := prog_3_method_2_code
def yX1_clear : MethodName := ⟨RX1, "clear", "()V"⟩
abbrev cX1_writeDefault : ByteArray := prog_3_method_3_code
def yX1_writeDefault : MethodName := ⟨RX1, "writeDefault", "()V"⟩
abbrev cX1_write : ByteArray := prog_3_method_4_code
def yX1_write : MethodName := ⟨RX1, "write", "(I)V"⟩
abbrev cX1_read : ByteArray := prog_3_method_5_code
def yX1_read : MethodName := ⟨RX1, "read", "(LBlockedCars$Reader;)V"⟩
abbrev cX1_readSum : ByteArray := prog_3_method_6_code
def yX1_readSum : MethodName := ⟨RX1, "readSum", "(LBlockedCars$Reader;I)V"⟩
abbrev cX1_readProduct : ByteArray := prog_3_method_7_code
def yX1_readProduct : MethodName := ⟨RX1, "readProduct", "(LBlockedCars$Reader;I)V"⟩
abbrev cX1_readUnit : ByteArray := prog_3_method_8_code
def yX1_readUnit : MethodName := ⟨RX1, "readUnit", "(LBlockedCars$Reader;I)V"⟩
abbrev cX1_readBracket : ByteArray := prog_3_method_9_code
def yX1_readBracket : MethodName := ⟨RX1, "readBracket", "(LBlockedCars$Reader;I)V"⟩
abbrev cX1_readTwo : ByteArray := prog_3_method_10_code
def yX1_readTwo : MethodName := ⟨RX1, "readTwo", "(LBlockedCars$Reader;II)V"⟩
abbrev cX1_factOf : ByteArray := prog_3_method_11_code
def yX1_factOf : MethodName := ⟨RX1, "factOf", "(LBlockedCars$Reader;)I"⟩
abbrev cX1_tellCar : ByteArray := prog_3_method_12_code
def yX1_tellCar : MethodName := ⟨RX1, "tellCar", "(IIII)V"⟩
abbrev cX1_tellMove : ByteArray := prog_3_method_13_code
def yX1_tellMove : MethodName := ⟨RX1, "tellMove", "(IIII)V"⟩
abbrev cX1_secondsNow : ByteArray := prog_3_method_14_code
def yX1_secondsNow : MethodName := ⟨RX1, "secondsNow", "(LBlockedCars$Yard;LBlockedCars$Position;II)I"⟩
abbrev cX1_secondsTold : ByteArray := prog_3_method_15_code
def yX1_secondsTold : MethodName := ⟨RX1, "secondsTold", "()I"⟩
abbrev cX1_reckon : ByteArray := prog_3_method_16_code
def yX1_reckon : MethodName := ⟨RX1, "reckon", "(III)I"⟩
def RX2 : String := "BlockedCars$Past"
def TX2 : u_T := fun k => match k with
  | 0 => ("BlockedCars$Past", "rows", "[LBlockedCars$Position;", true)
  | _ => ("BlockedCars$Past", "works", "I", false)
def tyX2 : Nat → FieldType := fun k => match k with
  | 0 => .array (.object "BlockedCars$Position")
  | _ => .int
abbrev wsX20 : List Cond := u_ws RX2 TX2 2
theorem nmX2 : ∀ a, a < 2 → ∀ b, b < 2 → a ≠ b → (TX2 a).2.1 ≠ (TX2 b).2.1 := by decide +kernel
theorem tyX2_ok : ∀ k, k < 2 → parseFieldDescriptor (TX2 k).2.2.1 = some (tyX2 k) := by decide +kernel
abbrev cX2_init : ByteArray := prog_4_method_1_code
def yX2_init : MethodName := ⟨RX2, "<init>", "()V"⟩
abbrev cX2_latest : ByteArray := prog_4_method_2_code
def yX2_latest : MethodName := ⟨RX2, "latest", "()LBlockedCars$Position;"⟩
abbrev cX2_begin : ByteArray := prog_4_method_3_code
def yX2_begin : MethodName := ⟨RX2, "begin", "()V"⟩
abbrev cX2_become : ByteArray := prog_4_method_4_code
def yX2_become : MethodName := ⟨RX2, "become", "(LBlockedCars$Past;)V"⟩
def RX3 : String := "BlockedCars$Position"
def TX3 : u_T := fun k => match k with
  | 0 => ("BlockedCars$Position", "stand", "J", false)
  | 1 => ("BlockedCars$Position", "spent", "I", false)
  | _ => ("BlockedCars$Position", "moves", "[I", true)
def tyX3 : Nat → FieldType := fun k => match k with
  | 0 => .long
  | 1 => .int
  | _ => .array .int
abbrev wsX30 : List Cond := u_ws RX3 TX3 3
theorem nmX3 : ∀ a, a < 3 → ∀ b, b < 3 → a ≠ b → (TX3 a).2.1 ≠ (TX3 b).2.1 := by decide +kernel
theorem tyX3_ok : ∀ k, k < 3 → parseFieldDescriptor (TX3 k).2.2.1 = some (tyX3 k) := by decide +kernel
abbrev cX3_init : ByteArray := prog_5_method_1_code
def yX3_init : MethodName := ⟨RX3, "<init>", "()V"⟩
abbrev cX3_become : ByteArray := prog_5_method_2_code
def yX3_become : MethodName := ⟨RX3, "become", "(LBlockedCars$Position;)V"⟩
abbrev cX3_standsAs : ByteArray := prog_5_method_3_code
def yX3_standsAs : MethodName := ⟨RX3, "standsAs", "(J)Z"⟩
abbrev cX3_addMove : ByteArray := prog_5_method_4_code
def yX3_addMove : MethodName := ⟨RX3, "addMove", "(I)V"⟩
abbrev cX3_movesOf : ByteArray := prog_5_method_5_code
def yX3_movesOf : MethodName := ⟨RX3, "movesOf", "(I)I"⟩
abbrev cX3_allMoves : ByteArray := prog_5_method_6_code
def yX3_allMoves : MethodName := ⟨RX3, "allMoves", "()I"⟩
abbrev cX3_levelled : ByteArray := prog_5_method_7_code
def yX3_levelled : MethodName := ⟨RX3, "levelled", "(II)I"⟩
def RX4 : String := "BlockedCars$Reader"
def TX4 : u_T := fun k => match k with
  | 0 => ("BlockedCars$Reader", "tape", "[B", true)
  | 1 => ("BlockedCars$Reader", "held", "I", false)
  | 2 => ("BlockedCars$Reader", "end", "I", false)
  | 3 => ("BlockedCars$Reader", "at", "I", false)
  | 4 => ("BlockedCars$Reader", "wordFrom", "I", false)
  | 5 => ("BlockedCars$Reader", "fault", "I", false)
  | _ => ("BlockedCars$Reader", "faultAt", "I", false)
def tyX4 : Nat → FieldType := fun k => match k with
  | 0 => .array .byte
  | 1 => .int
  | 2 => .int
  | 3 => .int
  | 4 => .int
  | 5 => .int
  | _ => .int
abbrev wsX40 : List Cond := u_ws RX4 TX4 7
theorem nmX4 : ∀ a, a < 7 → ∀ b, b < 7 → a ≠ b → (TX4 a).2.1 ≠ (TX4 b).2.1 := by decide +kernel
theorem tyX4_ok : ∀ k, k < 7 → parseFieldDescriptor (TX4 k).2.2.1 = some (tyX4 k) := by decide +kernel
abbrev cX4_init : ByteArray := prog_6_method_1_code
def yX4_init : MethodName := ⟨RX4, "<init>", "()V"⟩
abbrev cX4_take : ByteArray := prog_6_method_2_code
def yX4_take : MethodName := ⟨RX4, "take", "(I)V"⟩
abbrev cX4_open : ByteArray := prog_6_method_3_code
def yX4_open : MethodName := ⟨RX4, "open", "(I)V"⟩
abbrev cX4_isSound : ByteArray := prog_6_method_4_code
def yX4_isSound : MethodName := ⟨RX4, "isSound", "()Z"⟩
abbrev cX4_fail : ByteArray := prog_6_method_5_code
def yX4_fail : MethodName := ⟨RX4, "fail", "(II)V"⟩
abbrev cX4_here : ByteArray := prog_6_method_6_code
def yX4_here : MethodName := ⟨RX4, "here", "()I"⟩
abbrev cX4_skipBlanks : ByteArray := prog_6_method_7_code
def yX4_skipBlanks : MethodName := ⟨RX4, "skipBlanks", "()V"⟩
abbrev cX4_isAtEnd : ByteArray := prog_6_method_8_code
def yX4_isAtEnd : MethodName := ⟨RX4, "isAtEnd", "()Z"⟩
abbrev cX4_isDigitHere : ByteArray := prog_6_method_9_code
def yX4_isDigitHere : MethodName := ⟨RX4, "isDigitHere", "()Z"⟩
abbrev cX4_isNext : ByteArray := prog_6_method_10_code
def yX4_isNext : MethodName := ⟨RX4, "isNext", "(C)Z"⟩
abbrev cX4_skipIf : ByteArray := prog_6_method_11_code
def yX4_skipIf : MethodName := ⟨RX4, "skipIf", "(C)Z"⟩
abbrev cX4_readSign : ByteArray := prog_6_method_12_code
def yX4_readSign : MethodName := ⟨RX4, "readSign", "(C)V"⟩
abbrev cX4_readNumber : ByteArray := prog_6_method_13_code
def yX4_readNumber : MethodName := ⟨RX4, "readNumber", "(II)I"⟩
abbrev cX4_readWord : ByteArray := prog_6_method_14_code
def yX4_readWord : MethodName := ⟨RX4, "readWord", "()V"⟩
abbrev cX4_isWord : ByteArray := prog_6_method_15_code
def yX4_isWord : MethodName := ⟨RX4, "isWord", "(Ljava/lang/String;)Z"⟩
def RX5 : String := "BlockedCars$Search"
def TX5 : u_T := fun k => match k with
  | 0 => ("BlockedCars$Search", "stands", "[J", true)
  | 1 => ("BlockedCars$Search", "firsts", "[B", true)
  | 2 => ("BlockedCars$Search", "slots", "[I", true)
  | 3 => ("BlockedCars$Search", "size", "I", false)
  | 4 => ("BlockedCars$Search", "stamp", "I", false)
  | 5 => ("BlockedCars$Search", "yard", "LBlockedCars$Yard;", false)
  | 6 => ("BlockedCars$Search", "placesMore", "I", false)
  | 7 => ("BlockedCars$Search", "goal", "I", false)
  | 8 => ("BlockedCars$Search", "limit", "I", false)
  | 9 => ("BlockedCars$Search", "wasCut", "Z", false)
  | 10 => ("BlockedCars$Search", "fewest", "I", false)
  | _ => ("BlockedCars$Search", "first", "I", false)
def tyX5 : Nat → FieldType := fun k => match k with
  | 0 => .array .long
  | 1 => .array .byte
  | 2 => .array .int
  | 3 => .int
  | 4 => .int
  | 5 => .object "BlockedCars$Yard"
  | 6 => .int
  | 7 => .int
  | 8 => .int
  | 9 => .boolean
  | 10 => .int
  | _ => .int
abbrev wsX50 : List Cond := u_ws RX5 TX5 12
theorem nmX5 : ∀ a, a < 12 → ∀ b, b < 12 → a ≠ b → (TX5 a).2.1 ≠ (TX5 b).2.1 := by decide +kernel
theorem tyX5_ok : ∀ k, k < 12 → parseFieldDescriptor (TX5 k).2.2.1 = some (tyX5 k) := by decide +kernel
abbrev cX5_init : ByteArray := prog_7_method_1_code
def yX5_init : MethodName := ⟨RX5, "<init>", "()V"⟩
abbrev cX5_seek : ByteArray := prog_7_method_2_code
def yX5_seek : MethodName := ⟨RX5, "seek", "(LBlockedCars$Yard;IJI)I"⟩
abbrev cX5_spread : ByteArray := prog_7_method_3_code
def yX5_spread : MethodName := ⟨RX5, "spread", "(J)V"⟩
abbrev cX5_moveFrom : ByteArray := prog_7_method_4_code
def yX5_moveFrom : MethodName := ⟨RX5, "moveFrom", "(II)V"⟩
abbrev cX5_roomOf : ByteArray := prog_7_method_5_code
def yX5_roomOf : MethodName := ⟨RX5, "roomOf", "(JI)I"⟩
abbrev cX5_arrive : ByteArray := prog_7_method_6_code
def yX5_arrive : MethodName := ⟨RX5, "arrive", "(JII)V"⟩
abbrev cX5_isReached : ByteArray := prog_7_method_7_code
def yX5_isReached : MethodName := ⟨RX5, "isReached", "(J)Z"⟩
abbrev cX5_leastFrom : ByteArray := prog_7_method_8_code
def yX5_leastFrom : MethodName := ⟨RX5, "leastFrom", "(J)I"⟩
abbrev cX5_keep : ByteArray := prog_7_method_9_code
def yX5_keep : MethodName := ⟨RX5, "keep", "(JI)V"⟩
def RX6 : String := "BlockedCars$Spots"
def TX6 : u_T := fun k => match k with
  | 0 => ("BlockedCars$Spots", "lines", "I", false)
  | 1 => ("BlockedCars$Spots", "oil", "I", false)
  | 2 => ("BlockedCars$Spots", "places", "I", false)
  | 3 => ("BlockedCars$Spots", "standing", "[I", true)
  | _ => ("BlockedCars$Spots", "cars", "I", false)
def tyX6 : Nat → FieldType := fun k => match k with
  | 0 => .int
  | 1 => .int
  | 2 => .int
  | 3 => .array .int
  | _ => .int
abbrev wsX60 : List Cond := u_ws RX6 TX6 5
theorem nmX6 : ∀ a, a < 5 → ∀ b, b < 5 → a ≠ b → (TX6 a).2.1 ≠ (TX6 b).2.1 := by decide +kernel
theorem tyX6_ok : ∀ k, k < 5 → parseFieldDescriptor (TX6 k).2.2.1 = some (tyX6 k) := by decide +kernel
abbrev cX6_init : ByteArray := prog_8_method_1_code
def yX6_init : MethodName := ⟨RX6, "<init>", "()V"⟩
abbrev cX6_clear : ByteArray := prog_8_method_2_code
def yX6_clear : MethodName := ⟨RX6, "clear", "()V"⟩
abbrev cX6_read : ByteArray := prog_8_method_3_code
def yX6_read : MethodName := ⟨RX6, "read", "(LBlockedCars$Reader;LBlockedCars$Yard;)V"⟩
abbrev cX6_readLine : ByteArray := prog_8_method_4_code
def yX6_readLine : MethodName := ⟨RX6, "readLine", "(LBlockedCars$Reader;LBlockedCars$Yard;)V"⟩
abbrev cX6_lookAt : ByteArray := prog_8_method_5_code
def yX6_lookAt : MethodName := ⟨RX6, "lookAt", "(LBlockedCars$Yard;J)V"⟩
abbrev cX6_isRight : ByteArray := prog_8_method_6_code
def yX6_isRight : MethodName := ⟨RX6, "isRight", "(I)Z"⟩
abbrev cX6_howManySets : ByteArray := prog_8_method_7_code
def yX6_howManySets : MethodName := ⟨RX6, "howManySets", "()I"⟩
abbrev cX6_firstSet : ByteArray := prog_8_method_8_code
def yX6_firstSet : MethodName := ⟨RX6, "firstSet", "()I"⟩
abbrev cX6_carsInAllSets : ByteArray := prog_8_method_9_code
def yX6_carsInAllSets : MethodName := ⟨RX6, "carsInAllSets", "()I"⟩
abbrev cX6_worstAt : ByteArray := prog_8_method_10_code
def yX6_worstAt : MethodName := ⟨RX6, "worstAt", "(I)I"⟩
abbrev cX6_bestPlace : ByteArray := prog_8_method_11_code
def yX6_bestPlace : MethodName := ⟨RX6, "bestPlace", "()I"⟩
def RX7 : String := "BlockedCars$Stand"
def TX7 : u_T := fun k => match k with
  | _ => ("", "", "", false)
def tyX7 : Nat → FieldType := fun k => match k with
  | _ => .int
abbrev wsX70 : List Cond := u_ws RX7 TX7 0
theorem nmX7 : ∀ a, a < 0 → ∀ b, b < 0 → a ≠ b → (TX7 a).2.1 ≠ (TX7 b).2.1 := by decide +kernel
theorem tyX7_ok : ∀ k, k < 0 → parseFieldDescriptor (TX7 k).2.2.1 = some (tyX7 k) := by decide +kernel
abbrev cX7_rowOf : ByteArray := prog_9_method_2_code
def yX7_rowOf : MethodName := ⟨RX7, "rowOf", "(JI)I"⟩
abbrev cX7_withRow : ByteArray := prog_9_method_3_code
def yX7_withRow : MethodName := ⟨RX7, "withRow", "(JII)J"⟩
abbrev cX7_frontOf : ByteArray := prog_9_method_4_code
def yX7_frontOf : MethodName := ⟨RX7, "frontOf", "(JI)I"⟩
abbrev cX7_carAtWall : ByteArray := prog_9_method_5_code
def yX7_carAtWall : MethodName := ⟨RX7, "carAtWall", "(JI)I"⟩
abbrev cX7_driveOut : ByteArray := prog_9_method_6_code
def yX7_driveOut : MethodName := ⟨RX7, "driveOut", "(JI)J"⟩
abbrev cX7_driveIn : ByteArray := prog_9_method_7_code
def yX7_driveIn : MethodName := ⟨RX7, "driveIn", "(JII)J"⟩
abbrev cX7_carsIn : ByteArray := prog_9_method_8_code
def yX7_carsIn : MethodName := ⟨RX7, "carsIn", "(J)I"⟩
abbrev cX7_slotOf : ByteArray := prog_9_method_9_code
def yX7_slotOf : MethodName := ⟨RX7, "slotOf", "(JI)I"⟩
abbrev cX7_laneOf : ByteArray := prog_9_method_10_code
def yX7_laneOf : MethodName := ⟨RX7, "laneOf", "(JI)I"⟩
abbrev cX7_aheadOf : ByteArray := prog_9_method_11_code
def yX7_aheadOf : MethodName := ⟨RX7, "aheadOf", "(JI)I"⟩
abbrev cX7_takeAway : ByteArray := prog_9_method_12_code
def yX7_takeAway : MethodName := ⟨RX7, "takeAway", "(JI)J"⟩
def RX8 : String := "BlockedCars$Work"
def TX8 : u_T := fun k => match k with
  | 0 => ("BlockedCars$Work", "kinds", "[I", true)
  | 1 => ("BlockedCars$Work", "ones", "[I", true)
  | 2 => ("BlockedCars$Work", "twos", "[I", true)
  | 3 => ("BlockedCars$Work", "threes", "[I", true)
  | 4 => ("BlockedCars$Work", "roundsLeft", "[I", true)
  | 5 => ("BlockedCars$Work", "size", "I", false)
  | 6 => ("BlockedCars$Work", "done", "I", false)
  | _ => ("BlockedCars$Work", "refused", "I", false)
def tyX8 : Nat → FieldType := fun k => match k with
  | 0 => .array .int
  | 1 => .array .int
  | 2 => .array .int
  | 3 => .array .int
  | 4 => .array .int
  | 5 => .int
  | 6 => .int
  | _ => .int
abbrev wsX80 : List Cond := u_ws RX8 TX8 8
theorem nmX8 : ∀ a, a < 8 → ∀ b, b < 8 → a ≠ b → (TX8 a).2.1 ≠ (TX8 b).2.1 := by decide +kernel
theorem tyX8_ok : ∀ k, k < 8 → parseFieldDescriptor (TX8 k).2.2.1 = some (tyX8 k) := by decide +kernel
abbrev cX8_init : ByteArray := prog_10_method_1_code
def yX8_init : MethodName := ⟨RX8, "<init>", "()V"⟩
abbrev cX8_read : ByteArray := prog_10_method_2_code
def yX8_read : MethodName := ⟨RX8, "read", "(LBlockedCars$Reader;LBlockedCars$Yard;)V"⟩
abbrev cX8_readSteps : ByteArray := prog_10_method_3_code
def yX8_readSteps : MethodName := ⟨RX8, "readSteps", "(LBlockedCars$Reader;LBlockedCars$Yard;I)V"⟩
abbrev cX8_readStep : ByteArray := prog_10_method_4_code
def yX8_readStep : MethodName := ⟨RX8, "readStep", "(LBlockedCars$Reader;LBlockedCars$Yard;I)V"⟩
abbrev cX8_readLane : ByteArray := prog_10_method_5_code
def yX8_readLane : MethodName := ⟨RX8, "readLane", "(LBlockedCars$Reader;LBlockedCars$Yard;)I"⟩
abbrev cX8_readAgain : ByteArray := prog_10_method_6_code
def yX8_readAgain : MethodName := ⟨RX8, "readAgain", "(LBlockedCars$Reader;LBlockedCars$Yard;I)V"⟩
abbrev cX8_write : ByteArray := prog_10_method_7_code
def yX8_write : MethodName := ⟨RX8, "write", "(IIII)V"⟩
abbrev cX8_run : ByteArray := prog_10_method_8_code
def yX8_run : MethodName := ⟨RX8, "run", "(LBlockedCars$Yard;LBlockedCars$Law;LBlockedCars$Position;)V"⟩
abbrev cX8_endRound : ByteArray := prog_10_method_9_code
def yX8_endRound : MethodName := ⟨RX8, "endRound", "(I)I"⟩
abbrev cX8_countStep : ByteArray := prog_10_method_10_code
def yX8_countStep : MethodName := ⟨RX8, "countStep", "(Z)V"⟩
abbrev cX8_doStep : ByteArray := prog_10_method_11_code
def yX8_doStep : MethodName := ⟨RX8, "doStep", "(ILBlockedCars$Yard;LBlockedCars$Law;LBlockedCars$Position;)Z"⟩
abbrev cX8_park : ByteArray := prog_10_method_12_code
def yX8_park : MethodName := ⟨RX8, "park", "(IILBlockedCars$Yard;LBlockedCars$Position;)Z"⟩
abbrev cX8_move : ByteArray := prog_10_method_13_code
def yX8_move : MethodName := ⟨RX8, "move", "(ILBlockedCars$Yard;LBlockedCars$Law;LBlockedCars$Position;)Z"⟩
abbrev cX8_driveOff : ByteArray := prog_10_method_14_code
def yX8_driveOff : MethodName := ⟨RX8, "driveOff", "(ILBlockedCars$Position;)Z"⟩
def RX9 : String := "BlockedCars$Yard"
def TX9 : u_T := fun k => match k with
  | 0 => ("BlockedCars$Yard", "lanes", "I", false)
  | 1 => ("BlockedCars$Yard", "cars", "I", false)
  | 2 => ("BlockedCars$Yard", "cost", "I", false)
  | 3 => ("BlockedCars$Yard", "places", "[I", true)
  | 4 => ("BlockedCars$Yard", "lengths", "[I", true)
  | 5 => ("BlockedCars$Yard", "hours", "[I", true)
  | 6 => ("BlockedCars$Yard", "tries", "[I", true)
  | 7 => ("BlockedCars$Yard", "keys", "[I", true)
  | 8 => ("BlockedCars$Yard", "sooner", "[I", true)
  | 9 => ("BlockedCars$Yard", "leaving", "[I", true)
  | _ => ("BlockedCars$Yard", "coming", "[I", true)
def tyX9 : Nat → FieldType := fun k => match k with
  | 0 => .int
  | 1 => .int
  | 2 => .int
  | 3 => .array .int
  | 4 => .array .int
  | 5 => .array .int
  | 6 => .array .int
  | 7 => .array .int
  | 8 => .array .int
  | 9 => .array .int
  | _ => .array .int
abbrev wsX90 : List Cond := u_ws RX9 TX9 11
theorem nmX9 : ∀ a, a < 11 → ∀ b, b < 11 → a ≠ b → (TX9 a).2.1 ≠ (TX9 b).2.1 := by decide +kernel
theorem tyX9_ok : ∀ k, k < 11 → parseFieldDescriptor (TX9 k).2.2.1 = some (tyX9 k) := by decide +kernel
abbrev cX9_init : ByteArray := prog_11_method_1_code
def yX9_init : MethodName := ⟨RX9, "<init>", "()V"⟩
abbrev cX9_read : ByteArray := prog_11_method_2_code
def yX9_read : MethodName := ⟨RX9, "read", "(LBlockedCars$Reader;)V"⟩
abbrev cX9_readClause : ByteArray := prog_11_method_3_code
def yX9_readClause : MethodName := ⟨RX9, "readClause", "(LBlockedCars$Reader;I)V"⟩
abbrev cX9_kindOf : ByteArray := prog_11_method_4_code
def yX9_kindOf : MethodName := ⟨RX9, "kindOf", "(LBlockedCars$Reader;)I"⟩
abbrev cX9_readLane : ByteArray := prog_11_method_5_code
def yX9_readLane : MethodName := ⟨RX9, "readLane", "(LBlockedCars$Reader;)V"⟩
abbrev cX9_readCar : ByteArray := prog_11_method_6_code
def yX9_readCar : MethodName := ⟨RX9, "readCar", "(LBlockedCars$Reader;)V"⟩
abbrev cX9_readKey : ByteArray := prog_11_method_7_code
def yX9_readKey : MethodName := ⟨RX9, "readKey", "(LBlockedCars$Reader;)V"⟩
abbrev cX9_order : ByteArray := prog_11_method_8_code
def yX9_order : MethodName := ⟨RX9, "order", "()V"⟩
abbrev cX9_isSooner : ByteArray := prog_11_method_9_code
def yX9_isSooner : MethodName := ⟨RX9, "isSooner", "(II)Z"⟩
abbrev cX9_placesOf : ByteArray := prog_11_method_10_code
def yX9_placesOf : MethodName := ⟨RX9, "placesOf", "(I)I"⟩
abbrev cX9_lengthOf : ByteArray := prog_11_method_11_code
def yX9_lengthOf : MethodName := ⟨RX9, "lengthOf", "(I)I"⟩
abbrev cX9_hourOf : ByteArray := prog_11_method_12_code
def yX9_hourOf : MethodName := ⟨RX9, "hourOf", "(I)I"⟩
abbrev cX9_triesOf : ByteArray := prog_11_method_13_code
def yX9_triesOf : MethodName := ⟨RX9, "triesOf", "(I)I"⟩
abbrev cX9_keysOf : ByteArray := prog_11_method_14_code
def yX9_keysOf : MethodName := ⟨RX9, "keysOf", "(I)I"⟩
abbrev cX9_roomOf : ByteArray := prog_11_method_15_code
def yX9_roomOf : MethodName := ⟨RX9, "roomOf", "(JI)I"⟩
abbrev cX9_carOn : ByteArray := prog_11_method_16_code
def yX9_carOn : MethodName := ⟨RX9, "carOn", "(JII)I"⟩
abbrev cX9_firstPlaceOf : ByteArray := prog_11_method_17_code
def yX9_firstPlaceOf : MethodName := ⟨RX9, "firstPlaceOf", "(JI)I"⟩
abbrev cX9_pairsOf : ByteArray := prog_11_method_18_code
def yX9_pairsOf : MethodName := ⟨RX9, "pairsOf", "(J)I"⟩
abbrev cX9_blockings : ByteArray := prog_11_method_19_code
def yX9_blockings : MethodName := ⟨RX9, "blockings", "(JI)I"⟩
abbrev cX9_nextOut : ByteArray := prog_11_method_20_code
def yX9_nextOut : MethodName := ⟨RX9, "nextOut", "(J)I"⟩
abbrev cX9_letOut : ByteArray := prog_11_method_21_code
def yX9_letOut : MethodName := ⟨RX9, "letOut", "(J)J"⟩
abbrev cX9_comeHome : ByteArray := prog_11_method_22_code
def yX9_comeHome : MethodName := ⟨RX9, "comeHome", "(J)J"⟩
abbrev cX9_widestLane : ByteArray := prog_11_method_23_code
def yX9_widestLane : MethodName := ⟨RX9, "widestLane", "(J)I"⟩
abbrev cX9_getsOutAlone : ByteArray := prog_11_method_24_code
def yX9_getsOutAlone : MethodName := ⟨RX9, "getsOutAlone", "(JI)Z"⟩
abbrev cX9_firstOtherLane : ByteArray := prog_11_method_25_code
def yX9_firstOtherLane : MethodName := ⟨RX9, "firstOtherLane", "(JII)I"⟩
abbrev cX9_bestEvening : ByteArray := prog_11_method_26_code
def yX9_bestEvening : MethodName := ⟨RX9, "bestEvening", "(I)I"⟩
abbrev cX9_eveningBy : ByteArray := prog_11_method_27_code
def yX9_eveningBy : MethodName := ⟨RX9, "eveningBy", "(II)I"⟩
def RX10 : String := "BlockedCars"
def TX10 : u_T := fun k => match k with
  | 0 => ("BlockedCars", "reader", "LBlockedCars$Reader;", true)
  | 1 => ("BlockedCars", "yard", "LBlockedCars$Yard;", false)
  | 2 => ("BlockedCars", "yardDraft", "LBlockedCars$Yard;", false)
  | 3 => ("BlockedCars", "law", "LBlockedCars$Law;", false)
  | 4 => ("BlockedCars", "lawDraft", "LBlockedCars$Law;", false)
  | 5 => ("BlockedCars", "spots", "LBlockedCars$Spots;", false)
  | 6 => ("BlockedCars", "spotsDraft", "LBlockedCars$Spots;", false)
  | 7 => ("BlockedCars", "work", "LBlockedCars$Work;", true)
  | 8 => ("BlockedCars", "past", "LBlockedCars$Past;", true)
  | 9 => ("BlockedCars", "images", "[LBlockedCars$Past;", true)
  | 10 => ("BlockedCars", "search", "LBlockedCars$Search;", true)
  | 11 => ("BlockedCars", "days", "LBlockedCars$Days;", true)
  | 12 => ("BlockedCars", "imageCount", "I", false)
  | 13 => ("BlockedCars", "refusedSteps", "I", false)
  | 14 => ("BlockedCars", "refusedNoSuch", "I", false)
  | _ => ("BlockedCars", "refusedIllegal", "I", false)
def tyX10 : Nat → FieldType := fun k => match k with
  | 0 => .object "BlockedCars$Reader"
  | 1 => .object "BlockedCars$Yard"
  | 2 => .object "BlockedCars$Yard"
  | 3 => .object "BlockedCars$Law"
  | 4 => .object "BlockedCars$Law"
  | 5 => .object "BlockedCars$Spots"
  | 6 => .object "BlockedCars$Spots"
  | 7 => .object "BlockedCars$Work"
  | 8 => .object "BlockedCars$Past"
  | 9 => .array (.object "BlockedCars$Past")
  | 10 => .object "BlockedCars$Search"
  | 11 => .object "BlockedCars$Days"
  | 12 => .int
  | 13 => .int
  | 14 => .int
  | _ => .int
abbrev wsX100 : List Cond := u_ws RX10 TX10 16
theorem nmX10 : ∀ a, a < 16 → ∀ b, b < 16 → a ≠ b → (TX10 a).2.1 ≠ (TX10 b).2.1 := by decide +kernel
theorem tyX10_ok : ∀ k, k < 16 → parseFieldDescriptor (TX10 k).2.2.1 = some (tyX10 k) := by decide +kernel
abbrev cX10_init : ByteArray := prog_1_method_1_code
def yX10_init : MethodName := ⟨RX10, "<init>", "()V"⟩
abbrev cX10_feed : ByteArray := prog_1_method_2_code
def yX10_feed : MethodName := ⟨RX10, "feed", "(IIIII)I"⟩
abbrev cX10_yard : ByteArray := prog_1_method_3_code
def yX10_yard : MethodName := ⟨RX10, "yard", "(I)I"⟩
abbrev cX10_law : ByteArray := prog_1_method_4_code
def yX10_law : MethodName := ⟨RX10, "law", "(I)I"⟩
abbrev cX10_work : ByteArray := prog_1_method_5_code
def yX10_work : MethodName := ⟨RX10, "work", "(I)I"⟩
abbrev cX10_spots : ByteArray := prog_1_method_6_code
def yX10_spots : MethodName := ⟨RX10, "spots", "(I)I"⟩
abbrev cX10_fault : ByteArray := prog_1_method_7_code
def yX10_fault : MethodName := ⟨RX10, "fault", "()I"⟩
abbrev cX10_undo : ByteArray := prog_1_method_8_code
def yX10_undo : MethodName := ⟨RX10, "undo", "()I"⟩
abbrev cX10_told : ByteArray := prog_1_method_9_code
def yX10_told : MethodName := ⟨RX10, "told", "(I)I"⟩
abbrev cX10_lane : ByteArray := prog_1_method_10_code
def yX10_lane : MethodName := ⟨RX10, "lane", "(II)I"⟩
abbrev cX10_car : ByteArray := prog_1_method_11_code
def yX10_car : MethodName := ⟨RX10, "car", "(II)I"⟩
abbrev cX10_on : ByteArray := prog_1_method_12_code
def yX10_on : MethodName := ⟨RX10, "on", "(II)I"⟩
abbrev cX10_seconds : ByteArray := prog_1_method_13_code
def yX10_seconds : MethodName := ⟨RX10, "seconds", "(II)I"⟩
abbrev cX10_would : ByteArray := prog_1_method_14_code
def yX10_would : MethodName := ⟨RX10, "would", "(IIIIIIII)I"⟩
abbrev cX10_ahead : ByteArray := prog_1_method_15_code
def yX10_ahead : MethodName := ⟨RX10, "ahead", "(I)I"⟩
abbrev cX10_frees : ByteArray := prog_1_method_16_code
def yX10_frees : MethodName := ⟨RX10, "frees", "(II)I"⟩
abbrev cX10_morning : ByteArray := prog_1_method_17_code
def yX10_morning : MethodName := ⟨RX10, "morning", "(I)I"⟩
abbrev cX10_corner : ByteArray := prog_1_method_18_code
def yX10_corner : MethodName := ⟨RX10, "corner", "(I)I"⟩
abbrev cX10_goes : ByteArray := prog_1_method_19_code
def yX10_goes : MethodName := ⟨RX10, "goes", "(I)Z"⟩
abbrev cX10_evening : ByteArray := prog_1_method_20_code
def yX10_evening : MethodName := ⟨RX10, "evening", "(II)I"⟩
abbrev cX10_sure : ByteArray := prog_1_method_21_code
def yX10_sure : MethodName := ⟨RX10, "sure", "(III)I"⟩
abbrev cX10_leaks : ByteArray := prog_1_method_22_code
def yX10_leaks : MethodName := ⟨RX10, "leaks", "(I)I"⟩
abbrev cX10_look : ByteArray := prog_1_method_23_code
def yX10_look : MethodName := ⟨RX10, "look", "(I)I"⟩
abbrev cX10_fronts : ByteArray := prog_1_method_24_code
def yX10_fronts : MethodName := ⟨RX10, "fronts", "(IIII)I"⟩
abbrev cX10_pays : ByteArray := prog_1_method_25_code
def yX10_pays : MethodName := ⟨RX10, "pays", "(III)I"⟩
abbrev cX10_spare : ByteArray := prog_1_method_26_code
def yX10_spare : MethodName := ⟨RX10, "spare", "(I)I"⟩
abbrev cX10_next : ByteArray := prog_1_method_27_code
def yX10_next : MethodName := ⟨RX10, "next", "(I)I"⟩
abbrev cX10_most : ByteArray := prog_1_method_28_code
def yX10_most : MethodName := ⟨RX10, "most", "(I)I"⟩
abbrev cX10_days : ByteArray := prog_1_method_29_code
def yX10_days : MethodName := ⟨RX10, "days", "(IIII)I"⟩
abbrev cX10_span : ByteArray := prog_1_method_30_code
def yX10_span : MethodName := ⟨RX10, "span", "(IIIIII)I"⟩
abbrev cX10_image : ByteArray := prog_1_method_31_code
def yX10_image : MethodName := ⟨RX10, "image", "()I"⟩
abbrev cX10_restore : ByteArray := prog_1_method_32_code
def yX10_restore : MethodName := ⟨RX10, "restore", "()I"⟩
abbrev cX10_status : ByteArray := prog_1_method_33_code
def yX10_status : MethodName := ⟨RX10, "status", "(I)I"⟩
abbrev cX10_count : ByteArray := prog_1_method_34_code
def yX10_count : MethodName := ⟨RX10, "count", "(I)I"⟩
abbrev cX10_need : ByteArray := prog_1_method_35_code
def yX10_need : MethodName := ⟨RX10, "need", "(Z)V"⟩
abbrev cX10_needLane : ByteArray := prog_1_method_36_code
def yX10_needLane : MethodName := ⟨RX10, "needLane", "(I)V"⟩
abbrev cX10_needCar : ByteArray := prog_1_method_37_code
def yX10_needCar : MethodName := ⟨RX10, "needCar", "(I)V"⟩
abbrev cX10_areCars : ByteArray := prog_1_method_38_code
def yX10_areCars : MethodName := ⟨RX10, "areCars", "(I)Z"⟩
abbrev cX10_roomOfAll : ByteArray := prog_1_method_39_code
def yX10_roomOfAll : MethodName := ⟨RX10, "roomOfAll", "(J)I"⟩
abbrev cX10_isWithin : ByteArray := prog_1_method_40_code
def yX10_isWithin : MethodName := ⟨RX10, "isWithin", "(III)Z"⟩
abbrev cX10_hasByBid : ByteArray := prog_1_method_41_code
def yX10_hasByBid : MethodName := ⟨RX10, "hasByBid", "(IIII)I"⟩
abbrev cX10_isBest : ByteArray := prog_1_method_42_code
def yX10_isBest : MethodName := ⟨RX10, "isBest", "(IIIII)Z"⟩
def RX11 : String := "BlockedCarsModel"
def TX11 : u_T := fun k => match k with
  | 0 => ("BlockedCarsModel", "thrown", "I", false)
  | 1 => ("BlockedCarsModel", "tape", "I", false)
  | 2 => ("BlockedCarsModel", "size", "I", false)
  | 3 => ("BlockedCarsModel", "place", "I", false)
  | 4 => ("BlockedCarsModel", "at", "I", false)
  | 5 => ("BlockedCarsModel", "fault", "I", false)
  | 6 => ("BlockedCarsModel", "faultAt", "I", false)
  | 7 => ("BlockedCarsModel", "clauses", "I", false)
  | 8 => ("BlockedCarsModel", "open", "I", false)
  | 9 => ("BlockedCarsModel", "fed", "[I", true)
  | 10 => ("BlockedCarsModel", "refused", "[I", true)
  | 11 => ("BlockedCarsModel", "readTold", "[I", true)
  | 12 => ("BlockedCarsModel", "told", "[I", true)
  | 13 => ("BlockedCarsModel", "readPlaces", "[I", true)
  | 14 => ("BlockedCarsModel", "places", "[I", true)
  | 15 => ("BlockedCarsModel", "readKeys", "[I", true)
  | 16 => ("BlockedCarsModel", "keys", "[I", true)
  | 17 => ("BlockedCarsModel", "readCar", "[[I", true)
  | 18 => ("BlockedCarsModel", "car", "[[I", true)
  | 19 => ("BlockedCarsModel", "lawMany", "I", false)
  | 20 => ("BlockedCarsModel", "readLawMany", "I", false)
  | 21 => ("BlockedCarsModel", "law", "[[I", true)
  | 22 => ("BlockedCarsModel", "readLaw", "[[I", true)
  | 23 => ("BlockedCarsModel", "spot2", "[[I", true)
  | 24 => ("BlockedCarsModel", "readSpot", "[[I", true)
  | 25 => ("BlockedCarsModel", "stack", "[I", true)
  | 26 => ("BlockedCarsModel", "known", "[I", true)
  | 27 => ("BlockedCarsModel", "step", "[[I", true)
  | 28 => ("BlockedCarsModel", "steps", "I", false)
  | 29 => ("BlockedCarsModel", "now", "[I", true)
  | 30 => ("BlockedCarsModel", "trial", "[I", true)
  | 31 => ("BlockedCarsModel", "before", "[[I", true)
  | 32 => ("BlockedCarsModel", "kept", "[[I", true)
  | 33 => ("BlockedCarsModel", "lines", "I", false)
  | 34 => ("BlockedCarsModel", "works", "I", false)
  | 35 => ("BlockedCarsModel", "refusedSteps", "I", false)
  | 36 => ("BlockedCarsModel", "images", "I", false)
  | 37 => ("BlockedCarsModel", "spot", "I", false)
  | 38 => ("BlockedCarsModel", "begun", "I", false)
  | 39 => ("BlockedCarsModel", "doneSteps", "I", false)
  | 40 => ("BlockedCarsModel", "queue", "[I", true)
  | 41 => ("BlockedCarsModel", "depth", "[I", true)
  | 42 => ("BlockedCarsModel", "firstMove", "[I", true)
  | 43 => ("BlockedCarsModel", "line", "[I", true)
  | 44 => ("BlockedCarsModel", "yardRow", "[I", true)
  | 45 => ("BlockedCarsModel", "nextRow", "[I", true)
  | 46 => ("BlockedCarsModel", "foundFirst", "I", false)
  | 47 => ("BlockedCarsModel", "wider", "I", false)
  | 48 => ("BlockedCarsModel", "fewestPairs", "I", false)
  | 49 => ("BlockedCarsModel", "bestLanes", "I", false)
  | 50 => ("BlockedCarsModel", "lots", "I", false)
  | 51 => ("BlockedCarsModel", "went", "I", false)
  | _ => ("BlockedCarsModel", "ills", "I", false)
def tyX11 : Nat → FieldType := fun k => match k with
  | 0 => .int
  | 1 => .int
  | 2 => .int
  | 3 => .int
  | 4 => .int
  | 5 => .int
  | 6 => .int
  | 7 => .int
  | 8 => .int
  | 9 => .array .int
  | 10 => .array .int
  | 11 => .array .int
  | 12 => .array .int
  | 13 => .array .int
  | 14 => .array .int
  | 15 => .array .int
  | 16 => .array .int
  | 17 => .array (.array .int)
  | 18 => .array (.array .int)
  | 19 => .int
  | 20 => .int
  | 21 => .array (.array .int)
  | 22 => .array (.array .int)
  | 23 => .array (.array .int)
  | 24 => .array (.array .int)
  | 25 => .array .int
  | 26 => .array .int
  | 27 => .array (.array .int)
  | 28 => .int
  | 29 => .array .int
  | 30 => .array .int
  | 31 => .array (.array .int)
  | 32 => .array (.array .int)
  | 33 => .int
  | 34 => .int
  | 35 => .int
  | 36 => .int
  | 37 => .int
  | 38 => .int
  | 39 => .int
  | 40 => .array .int
  | 41 => .array .int
  | 42 => .array .int
  | 43 => .array .int
  | 44 => .array .int
  | 45 => .array .int
  | 46 => .int
  | 47 => .int
  | 48 => .int
  | 49 => .int
  | 50 => .int
  | 51 => .int
  | _ => .int
abbrev wsX110 : List Cond := u_ws RX11 TX11 53
theorem nmX11 : ∀ a, a < 53 → ∀ b, b < 53 → a ≠ b → (TX11 a).2.1 ≠ (TX11 b).2.1 := by decide +kernel
theorem tyX11_ok : ∀ k, k < 53 → parseFieldDescriptor (TX11 k).2.2.1 = some (tyX11 k) := by decide +kernel
abbrev cX11_init : ByteArray := prog_13_method_1_code
def yX11_init : MethodName := ⟨RX11, "<init>", "()V"⟩
abbrev cX11_tellsNothing : ByteArray := prog_13_method_2_code
def yX11_tellsNothing : MethodName := ⟨RX11, "tellsNothing", "()V"⟩
abbrev cX11_thrown : ByteArray := prog_13_method_3_code
def yX11_thrown : MethodName := ⟨RX11, "thrown", "()I"⟩
abbrev cX11_bad : ByteArray := prog_13_method_4_code
def yX11_bad : MethodName := ⟨RX11, "bad", "(ZII)Z"⟩
abbrev cX11_in : ByteArray := prog_13_method_5_code
def yX11_in : MethodName := ⟨RX11, "in", "(III)Z"⟩
abbrev cX11_less : ByteArray := prog_13_method_6_code
def yX11_less : MethodName := ⟨RX11, "less", "(II)I"⟩
abbrev cX11_more : ByteArray := prog_13_method_7_code
def yX11_more : MethodName := ⟨RX11, "more", "(II)I"⟩
abbrev cX11_has : ByteArray := prog_13_method_8_code
def yX11_has : MethodName := ⟨RX11, "has", "(II)Z"⟩
abbrev cX11_feed : ByteArray := prog_13_method_9_code
def yX11_feed : MethodName := ⟨RX11, "feed", "(IIIII)I"⟩
abbrev cX11_byteAt : ByteArray := prog_13_method_10_code
def yX11_byteAt : MethodName := ⟨RX11, "byteAt", "(I)I"⟩
abbrev cX11_blanks : ByteArray := prog_13_method_11_code
def yX11_blanks : MethodName := ⟨RX11, "blanks", "()V"⟩
abbrev cX11_wrong : ByteArray := prog_13_method_12_code
def yX11_wrong : MethodName := ⟨RX11, "wrong", "(II)V"⟩
abbrev cX11_isDigit : ByteArray := prog_13_method_13_code
def yX11_isDigit : MethodName := ⟨RX11, "isDigit", "(I)Z"⟩
abbrev cX11_isSmall : ByteArray := prog_13_method_14_code
def yX11_isSmall : MethodName := ⟨RX11, "isSmall", "(I)Z"⟩
abbrev cX11_number : ByteArray := prog_13_method_15_code
def yX11_number : MethodName := ⟨RX11, "number", "(II)I"⟩
abbrev cX11_wordHere : ByteArray := prog_13_method_16_code
def yX11_wordHere : MethodName := ⟨RX11, "wordHere", "()I"⟩
abbrev cX11_six : ByteArray := prog_13_method_17_code
def yX11_six : MethodName := ⟨RX11, "six", "(IIIIII)I"⟩
abbrev cX11_isWord : ByteArray := prog_13_method_18_code
def yX11_isWord : MethodName := ⟨RX11, "isWord", "(IIIIII)Z"⟩
abbrev cX11_skipWord : ByteArray := prog_13_method_19_code
def yX11_skipWord : MethodName := ⟨RX11, "skipWord", "()V"⟩
abbrev cX11_takes : ByteArray := prog_13_method_20_code
def yX11_takes : MethodName := ⟨RX11, "takes", "(IIIIII)Z"⟩
abbrev cX11_sign : ByteArray := prog_13_method_21_code
def yX11_sign : MethodName := ⟨RX11, "sign", "(I)V"⟩
abbrev cX11_takesSign : ByteArray := prog_13_method_22_code
def yX11_takesSign : MethodName := ⟨RX11, "takesSign", "(I)Z"⟩
abbrev cX11_starts : ByteArray := prog_13_method_23_code
def yX11_starts : MethodName := ⟨RX11, "starts", "(I)V"⟩
abbrev cX11_ends : ByteArray := prog_13_method_24_code
def yX11_ends : MethodName := ⟨RX11, "ends", "()I"⟩
abbrev cX11_kindHere : ByteArray := prog_13_method_25_code
def yX11_kindHere : MethodName := ⟨RX11, "kindHere", "()I"⟩
abbrev cX11_clause : ByteArray := prog_13_method_26_code
def yX11_clause : MethodName := ⟨RX11, "clause", "()V"⟩
abbrev cX11_yard : ByteArray := prog_13_method_27_code
def yX11_yard : MethodName := ⟨RX11, "yard", "(I)I"⟩
abbrev cX11_lays : ByteArray := prog_13_method_28_code
def yX11_lays : MethodName := ⟨RX11, "lays", "([[I[[II)V"⟩
abbrev cX11_copies : ByteArray := prog_13_method_29_code
def yX11_copies : MethodName := ⟨RX11, "copies", "([I[I)V"⟩
abbrev cX11_beginsAnew : ByteArray := prog_13_method_30_code
def yX11_beginsAnew : MethodName := ⟨RX11, "beginsAnew", "()V"⟩
abbrev cX11_notes : ByteArray := prog_13_method_31_code
def yX11_notes : MethodName := ⟨RX11, "notes", "(II)V"⟩
abbrev cX11_opensOne : ByteArray := prog_13_method_32_code
def yX11_opensOne : MethodName := ⟨RX11, "opensOne", "()Z"⟩
abbrev cX11_sum : ByteArray := prog_13_method_33_code
def yX11_sum : MethodName := ⟨RX11, "sum", "()V"⟩
abbrev cX11_product : ByteArray := prog_13_method_34_code
def yX11_product : MethodName := ⟨RX11, "product", "()V"⟩
abbrev cX11_knownHere : ByteArray := prog_13_method_35_code
def yX11_knownHere : MethodName := ⟨RX11, "knownHere", "()I"⟩
abbrev cX11_one : ByteArray := prog_13_method_36_code
def yX11_one : MethodName := ⟨RX11, "one", "()V"⟩
abbrev cX11_law : ByteArray := prog_13_method_37_code
def yX11_law : MethodName := ⟨RX11, "law", "(I)I"⟩
abbrev cX11_by : ByteArray := prog_13_method_38_code
def yX11_by : MethodName := ⟨RX11, "by", "(III)I"⟩
abbrev cX11_byLaw : ByteArray := prog_13_method_39_code
def yX11_byLaw : MethodName := ⟨RX11, "byLaw", "()I"⟩
abbrev cX11_stepHere : ByteArray := prog_13_method_40_code
def yX11_stepHere : MethodName := ⟨RX11, "stepHere", "()I"⟩
abbrev cX11_readsStep : ByteArray := prog_13_method_41_code
def yX11_readsStep : MethodName := ⟨RX11, "readsStep", "()V"⟩
abbrev cX11_spots : ByteArray := prog_13_method_42_code
def yX11_spots : MethodName := ⟨RX11, "spots", "(I)I"⟩
abbrev cX11_fault : ByteArray := prog_13_method_43_code
def yX11_fault : MethodName := ⟨RX11, "fault", "()I"⟩
abbrev cX11_standing : ByteArray := prog_13_method_44_code
def yX11_standing : MethodName := ⟨RX11, "standing", "([III)I"⟩
abbrev cX11_frontOf : ByteArray := prog_13_method_45_code
def yX11_frontOf : MethodName := ⟨RX11, "frontOf", "([II)I"⟩
abbrev cX11_roomOf : ByteArray := prog_13_method_46_code
def yX11_roomOf : MethodName := ⟨RX11, "roomOf", "([II)I"⟩
abbrev cX11_laneOf : ByteArray := prog_13_method_47_code
def yX11_laneOf : MethodName := ⟨RX11, "laneOf", "([II)I"⟩
abbrev cX11_rankOf : ByteArray := prog_13_method_48_code
def yX11_rankOf : MethodName := ⟨RX11, "rankOf", "([II)I"⟩
abbrev cX11_comesTo : ByteArray := prog_13_method_49_code
def yX11_comesTo : MethodName := ⟨RX11, "comesTo", "([III)V"⟩
abbrev cX11_isLater : ByteArray := prog_13_method_50_code
def yX11_isLater : MethodName := ⟨RX11, "isLater", "(II)Z"⟩
abbrev cX11_pairsIn : ByteArray := prog_13_method_51_code
def yX11_pairsIn : MethodName := ⟨RX11, "pairsIn", "([I)I"⟩
abbrev cX11_insideOf : ByteArray := prog_13_method_52_code
def yX11_insideOf : MethodName := ⟨RX11, "insideOf", "([I)I"⟩
abbrev cX11_secondsOf : ByteArray := prog_13_method_53_code
def yX11_secondsOf : MethodName := ⟨RX11, "secondsOf", "([III)I"⟩
abbrev cX11_moves : ByteArray := prog_13_method_54_code
def yX11_moves : MethodName := ⟨RX11, "moves", "([IIII)Z"⟩
abbrev cX11_roomiest : ByteArray := prog_13_method_55_code
def yX11_roomiest : MethodName := ⟨RX11, "roomiest", "([I)I"⟩
abbrev cX11_latestOut : ByteArray := prog_13_method_56_code
def yX11_latestOut : MethodName := ⟨RX11, "latestOut", "([II)I"⟩
abbrev cX11_swaps : ByteArray := prog_13_method_57_code
def yX11_swaps : MethodName := ⟨RX11, "swaps", "([I)Z"⟩
abbrev cX11_does : ByteArray := prog_13_method_58_code
def yX11_does : MethodName := ⟨RX11, "does", "([I[I)Z"⟩
abbrev cX11_goesOn : ByteArray := prog_13_method_59_code
def yX11_goesOn : MethodName := ⟨RX11, "goesOn", "(II)V"⟩
abbrev cX11_work : ByteArray := prog_13_method_60_code
def yX11_work : MethodName := ⟨RX11, "work", "(I)I"⟩
abbrev cX11_undo : ByteArray := prog_13_method_61_code
def yX11_undo : MethodName := ⟨RX11, "undo", "()I"⟩
abbrev cX11_told : ByteArray := prog_13_method_62_code
def yX11_told : MethodName := ⟨RX11, "told", "(I)I"⟩
abbrev cX11_isLane : ByteArray := prog_13_method_63_code
def yX11_isLane : MethodName := ⟨RX11, "isLane", "(I)Z"⟩
abbrev cX11_isCar : ByteArray := prog_13_method_64_code
def yX11_isCar : MethodName := ⟨RX11, "isCar", "(I)Z"⟩
abbrev cX11_areCars : ByteArray := prog_13_method_65_code
def yX11_areCars : MethodName := ⟨RX11, "areCars", "(I)Z"⟩
abbrev cX11_lane : ByteArray := prog_13_method_66_code
def yX11_lane : MethodName := ⟨RX11, "lane", "(II)I"⟩
abbrev cX11_firstPlace : ByteArray := prog_13_method_67_code
def yX11_firstPlace : MethodName := ⟨RX11, "firstPlace", "(I)I"⟩
abbrev cX11_car : ByteArray := prog_13_method_68_code
def yX11_car : MethodName := ⟨RX11, "car", "(II)I"⟩
abbrev cX11_onPlace : ByteArray := prog_13_method_69_code
def yX11_onPlace : MethodName := ⟨RX11, "onPlace", "(II)I"⟩
abbrev cX11_on : ByteArray := prog_13_method_70_code
def yX11_on : MethodName := ⟨RX11, "on", "(II)I"⟩
abbrev cX11_seconds : ByteArray := prog_13_method_71_code
def yX11_seconds : MethodName := ⟨RX11, "seconds", "(II)I"⟩
abbrev cX11_would : ByteArray := prog_13_method_72_code
def yX11_would : MethodName := ⟨RX11, "would", "(IIIIIIII)I"⟩
abbrev cX11_aheadOf : ByteArray := prog_13_method_73_code
def yX11_aheadOf : MethodName := ⟨RX11, "aheadOf", "(I)I"⟩
abbrev cX11_ahead : ByteArray := prog_13_method_74_code
def yX11_ahead : MethodName := ⟨RX11, "ahead", "(I)I"⟩
abbrev cX11_asNumber : ByteArray := prog_13_method_75_code
def yX11_asNumber : MethodName := ⟨RX11, "asNumber", "([I)I"⟩
abbrev cX11_asRow : ByteArray := prog_13_method_76_code
def yX11_asRow : MethodName := ⟨RX11, "asRow", "(I[I)V"⟩
abbrev cX11_placeOf : ByteArray := prog_13_method_77_code
def yX11_placeOf : MethodName := ⟨RX11, "placeOf", "(I)I"⟩
abbrev cX11_earliest : ByteArray := prog_13_method_78_code
def yX11_earliest : MethodName := ⟨RX11, "earliest", "([I)I"⟩
abbrev cX11_leaveAll : ByteArray := prog_13_method_79_code
def yX11_leaveAll : MethodName := ⟨RX11, "leaveAll", "([I)V"⟩
abbrev cX11_isGoal : ByteArray := prog_13_method_80_code
def yX11_isGoal : MethodName := ⟨RX11, "isGoal", "([II)Z"⟩
abbrev cX11_fewest : ByteArray := prog_13_method_81_code
def yX11_fewest : MethodName := ⟨RX11, "fewest", "([II)I"⟩
abbrev cX11_frees : ByteArray := prog_13_method_82_code
def yX11_frees : MethodName := ⟨RX11, "frees", "(II)I"⟩
abbrev cX11_morning : ByteArray := prog_13_method_83_code
def yX11_morning : MethodName := ⟨RX11, "morning", "(I)I"⟩
abbrev cX11_takesOut : ByteArray := prog_13_method_84_code
def yX11_takesOut : MethodName := ⟨RX11, "takesOut", "([II)V"⟩
abbrev cX11_corner : ByteArray := prog_13_method_85_code
def yX11_corner : MethodName := ⟨RX11, "corner", "(I)I"⟩
abbrev cX11_spare : ByteArray := prog_13_method_86_code
def yX11_spare : MethodName := ⟨RX11, "spare", "(I)I"⟩
abbrev cX11_goes : ByteArray := prog_13_method_87_code
def yX11_goes : MethodName := ⟨RX11, "goes", "(I)Z"⟩
abbrev cX11_comeHome : ByteArray := prog_13_method_88_code
def yX11_comeHome : MethodName := ⟨RX11, "comeHome", "([IIII)V"⟩
abbrev cX11_evening : ByteArray := prog_13_method_89_code
def yX11_evening : MethodName := ⟨RX11, "evening", "(II)I"⟩
abbrev cX11_sure : ByteArray := prog_13_method_90_code
def yX11_sure : MethodName := ⟨RX11, "sure", "(III)I"⟩
abbrev cX11_isOil : ByteArray := prog_13_method_91_code
def yX11_isOil : MethodName := ⟨RX11, "isOil", "(III)Z"⟩
abbrev cX11_isLeak : ByteArray := prog_13_method_92_code
def yX11_isLeak : MethodName := ⟨RX11, "isLeak", "(I)Z"⟩
abbrev cX11_leaks : ByteArray := prog_13_method_93_code
def yX11_leaks : MethodName := ⟨RX11, "leaks", "(I)I"⟩
abbrev cX11_isTold : ByteArray := prog_13_method_94_code
def yX11_isTold : MethodName := ⟨RX11, "isTold", "(II)Z"⟩
abbrev cX11_look : ByteArray := prog_13_method_95_code
def yX11_look : MethodName := ⟨RX11, "look", "(I)I"⟩
abbrev cX11_hasBy : ByteArray := prog_13_method_96_code
def yX11_hasBy : MethodName := ⟨RX11, "hasBy", "(IIII)I"⟩
abbrev cX11_isBest : ByteArray := prog_13_method_97_code
def yX11_isBest : MethodName := ⟨RX11, "isBest", "(IIIII)Z"⟩
abbrev cX11_fronts : ByteArray := prog_13_method_98_code
def yX11_fronts : MethodName := ⟨RX11, "fronts", "(IIII)I"⟩
abbrev cX11_givenBy : ByteArray := prog_13_method_99_code
def yX11_givenBy : MethodName := ⟨RX11, "givenBy", "(II)I"⟩
abbrev cX11_pays : ByteArray := prog_13_method_100_code
def yX11_pays : MethodName := ⟨RX11, "pays", "(III)I"⟩
abbrev cX11_next : ByteArray := prog_13_method_101_code
def yX11_next : MethodName := ⟨RX11, "next", "(I)I"⟩
abbrev cX11_most : ByteArray := prog_13_method_102_code
def yX11_most : MethodName := ⟨RX11, "most", "(I)I"⟩
abbrev cX11_draw : ByteArray := prog_13_method_103_code
def yX11_draw : MethodName := ⟨RX11, "draw", "(I)I"⟩
abbrev cX11_daysBy : ByteArray := prog_13_method_104_code
def yX11_daysBy : MethodName := ⟨RX11, "daysBy", "(III)V"⟩
abbrev cX11_areDays : ByteArray := prog_13_method_105_code
def yX11_areDays : MethodName := ⟨RX11, "areDays", "(II)Z"⟩
abbrev cX11_days : ByteArray := prog_13_method_106_code
def yX11_days : MethodName := ⟨RX11, "days", "(IIII)I"⟩
abbrev cX11_span : ByteArray := prog_13_method_107_code
def yX11_span : MethodName := ⟨RX11, "span", "(IIIIII)I"⟩
abbrev cX11_puts : ByteArray := prog_13_method_108_code
def yX11_puts : MethodName := ⟨RX11, "puts", "([IIZ)I"⟩
abbrev cX11_putsAll : ByteArray := prog_13_method_109_code
def yX11_putsAll : MethodName := ⟨RX11, "putsAll", "([IZ)V"⟩
abbrev cX11_image : ByteArray := prog_13_method_110_code
def yX11_image : MethodName := ⟨RX11, "image", "()I"⟩
abbrev cX11_restore : ByteArray := prog_13_method_111_code
def yX11_restore : MethodName := ⟨RX11, "restore", "()I"⟩
abbrev cX11_status : ByteArray := prog_13_method_112_code
def yX11_status : MethodName := ⟨RX11, "status", "(I)I"⟩
abbrev cX11_count : ByteArray := prog_13_method_113_code
def yX11_count : MethodName := ⟨RX11, "count", "(I)I"⟩
def RJx145de : String := "java/io/Serializable"
def TJx145de : u_T := fun k => match k with
  | _ => ("", "", "", false)
def tyJx145de : Nat → FieldType := fun k => match k with
  | _ => .int
abbrev wsJx145de0 : List Cond := u_ws RJx145de TJx145de 0
theorem nmJx145de : ∀ a, a < 0 → ∀ b, b < 0 → a ≠ b → (TJx145de a).2.1 ≠ (TJx145de b).2.1 := by decide +kernel
theorem tyJx145de_ok : ∀ k, k < 0 → parseFieldDescriptor (TJx145de k).2.2.1 = some (tyJx145de k) := by decide +kernel
def RJx9f9b0 : String := "java/lang/CharSequence"
def TJx9f9b0 : u_T := fun k => match k with
  | _ => ("", "", "", false)
def tyJx9f9b0 : Nat → FieldType := fun k => match k with
  | _ => .int
abbrev wsJx9f9b00 : List Cond := u_ws RJx9f9b0 TJx9f9b0 0
theorem nmJx9f9b0 : ∀ a, a < 0 → ∀ b, b < 0 → a ≠ b → (TJx9f9b0 a).2.1 ≠ (TJx9f9b0 b).2.1 := by decide +kernel
theorem tyJx9f9b0_ok : ∀ k, k < 0 → parseFieldDescriptor (TJx9f9b0 k).2.2.1 = some (tyJx9f9b0 k) := by decide +kernel
def RJxb160c : String := "java/lang/Comparable"
def TJxb160c : u_T := fun k => match k with
  | _ => ("", "", "", false)
def tyJxb160c : Nat → FieldType := fun k => match k with
  | _ => .int
abbrev wsJxb160c0 : List Cond := u_ws RJxb160c TJxb160c 0
theorem nmJxb160c : ∀ a, a < 0 → ∀ b, b < 0 → a ≠ b → (TJxb160c a).2.1 ≠ (TJxb160c b).2.1 := by decide +kernel
theorem tyJxb160c_ok : ∀ k, k < 0 → parseFieldDescriptor (TJxb160c k).2.2.1 = some (tyJxb160c k) := by decide +kernel
def RJ6 : String := "java/lang/Integer"
def TJ6 : u_T := fun k => match k with
  | _ => ("", "", "", false)
def tyJ6 : Nat → FieldType := fun k => match k with
  | _ => .int
abbrev wsJ60 : List Cond := u_ws RJ6 TJ6 0
theorem nmJ6 : ∀ a, a < 0 → ∀ b, b < 0 → a ≠ b → (TJ6 a).2.1 ≠ (TJ6 b).2.1 := by decide +kernel
theorem tyJ6_ok : ∀ k, k < 0 → parseFieldDescriptor (TJ6 k).2.2.1 = some (tyJ6 k) := by decide +kernel
abbrev cJ6_bitCount_0f7a4 : ByteArray := prog_19_method_49_code
def yJ6_bitCount_0f7a4 : MethodName := ⟨RJ6, "bitCount", "(I)I"⟩
def RJ9 : String := "java/lang/Math"
def TJ9 : u_T := fun k => match k with
  | _ => ("", "", "", false)
def tyJ9 : Nat → FieldType := fun k => match k with
  | _ => .int
abbrev wsJ90 : List Cond := u_ws RJ9 TJ9 0
theorem nmJ9 : ∀ a, a < 0 → ∀ b, b < 0 → a ≠ b → (TJ9 a).2.1 ≠ (TJ9 b).2.1 := by decide +kernel
theorem tyJ9_ok : ∀ k, k < 0 → parseFieldDescriptor (TJ9 k).2.2.1 = some (tyJ9 k) := by decide +kernel
abbrev cJ9_max_7cf53 : ByteArray := prog_20_method_65_code
def yJ9_max_7cf53 : MethodName := ⟨RJ9, "max", "(II)I"⟩
abbrev cJ9_min_7cf53 : ByteArray := prog_20_method_69_code
def yJ9_min_7cf53 : MethodName := ⟨RJ9, "min", "(II)I"⟩
def RJ0 : String := "java/lang/String"
def TJ0 : u_T := fun k => match k with
  | _ => ("", "", "", false)
def tyJ0 : Nat → FieldType := fun k => match k with
  | _ => .int
abbrev wsJ00 : List Cond := u_ws RJ0 TJ0 0
theorem nmJ0 : ∀ a, a < 0 → ∀ b, b < 0 → a ≠ b → (TJ0 a).2.1 ≠ (TJ0 b).2.1 := by decide +kernel
theorem tyJ0_ok : ∀ k, k < 0 → parseFieldDescriptor (TJ0 k).2.2.1 = some (tyJ0 k) := by decide +kernel
abbrev cJ0_length_8abf5 : ByteArray := prog_22_method_54_code
def yJ0_length_8abf5 : MethodName := ⟨RJ0, "length", "()I"⟩
abbrev cJ0_charAt_5068e : ByteArray := prog_22_method_56_code
def yJ0_charAt_5068e : MethodName := ⟨RJ0, "charAt", "(I)C"⟩
abbrev cJ0_coder_7d493 : ByteArray := prog_22_method_152_code
def yJ0_coder_7d493 : MethodName := ⟨RJ0, "coder", "()B"⟩
abbrev cJ0_isLatin1_aae02 : ByteArray := prog_22_method_154_code
def yJ0_isLatin1_aae02 : MethodName := ⟨RJ0, "isLatin1", "()Z"⟩
abbrev cJ0_checkIndex_df160 : ByteArray := prog_22_method_155_code
def yJ0_checkIndex_df160 : MethodName := ⟨RJ0, "checkIndex", "(II)V"⟩
def RJ1 : String := "java/lang/StringLatin1"
def TJ1 : u_T := fun k => match k with
  | _ => ("", "", "", false)
def tyJ1 : Nat → FieldType := fun k => match k with
  | _ => .int
abbrev wsJ10 : List Cond := u_ws RJ1 TJ1 0
theorem nmJ1 : ∀ a, a < 0 → ∀ b, b < 0 → a ≠ b → (TJ1 a).2.1 ≠ (TJ1 b).2.1 := by decide +kernel
theorem tyJ1_ok : ∀ k, k < 0 → parseFieldDescriptor (TJ1 k).2.2.1 = some (tyJ1 k) := by decide +kernel
abbrev cJ1_charAt_3b067 : ByteArray := prog_23_method_2_code
def yJ1_charAt_3b067 : MethodName := ⟨RJ1, "charAt", "([BI)C"⟩
def RJ2 : String := "java/lang/StringUTF16"
def TJ2 : u_T := fun k => match k with
  | _ => ("", "", "", false)
def tyJ2 : Nat → FieldType := fun k => match k with
  | _ => .int
abbrev wsJ20 : List Cond := u_ws RJ2 TJ2 0
theorem nmJ2 : ∀ a, a < 0 → ∀ b, b < 0 → a ≠ b → (TJ2 a).2.1 ≠ (TJ2 b).2.1 := by decide +kernel
theorem tyJ2_ok : ∀ k, k < 0 → parseFieldDescriptor (TJ2 k).2.2.1 = some (tyJ2 k) := by decide +kernel
abbrev cJ2_getChar_3b067 : ByteArray := prog_24_method_5_code
def yJ2_getChar_3b067 : MethodName := ⟨RJ2, "getChar", "([BI)C"⟩
abbrev cJ2_length_9d52b : ByteArray := prog_24_method_6_code
def yJ2_length_9d52b : MethodName := ⟨RJ2, "length", "([B)I"⟩
abbrev cJ2_charAt_3b067 : ByteArray := prog_24_method_83_code
def yJ2_charAt_3b067 : MethodName := ⟨RJ2, "charAt", "([BI)C"⟩
abbrev cJ2_checkIndex_2214a : ByteArray := prog_24_method_91_code
def yJ2_checkIndex_2214a : MethodName := ⟨RJ2, "checkIndex", "(I[B)V"⟩
def RJ10 : String := "java/lang/System"
def TJ10 : u_T := fun k => match k with
  | _ => ("", "", "", false)
def tyJ10 : Nat → FieldType := fun k => match k with
  | _ => .int
abbrev wsJ100 : List Cond := u_ws RJ10 TJ10 0
theorem nmJ10 : ∀ a, a < 0 → ∀ b, b < 0 → a ≠ b → (TJ10 a).2.1 ≠ (TJ10 b).2.1 := by decide +kernel
theorem tyJ10_ok : ∀ k, k < 0 → parseFieldDescriptor (TJ10 k).2.2.1 = some (tyJ10 k) := by decide +kernel
def RJxfd54e : String := "java/lang/constant/Constable"
def TJxfd54e : u_T := fun k => match k with
  | _ => ("", "", "", false)
def tyJxfd54e : Nat → FieldType := fun k => match k with
  | _ => .int
abbrev wsJxfd54e0 : List Cond := u_ws RJxfd54e TJxfd54e 0
theorem nmJxfd54e : ∀ a, a < 0 → ∀ b, b < 0 → a ≠ b → (TJxfd54e a).2.1 ≠ (TJxfd54e b).2.1 := by decide +kernel
theorem tyJxfd54e_ok : ∀ k, k < 0 → parseFieldDescriptor (TJxfd54e k).2.2.1 = some (tyJxfd54e k) := by decide +kernel
def RJx3cf43 : String := "java/lang/constant/ConstantDesc"
def TJx3cf43 : u_T := fun k => match k with
  | _ => ("", "", "", false)
def tyJx3cf43 : Nat → FieldType := fun k => match k with
  | _ => .int
abbrev wsJx3cf430 : List Cond := u_ws RJx3cf43 TJx3cf43 0
theorem nmJx3cf43 : ∀ a, a < 0 → ∀ b, b < 0 → a ≠ b → (TJx3cf43 a).2.1 ≠ (TJx3cf43 b).2.1 := by decide +kernel
theorem tyJx3cf43_ok : ∀ k, k < 0 → parseFieldDescriptor (TJx3cf43 k).2.2.1 = some (tyJx3cf43 k) := by decide +kernel
def RJ7 : String := "java/util/Arrays"
def TJ7 : u_T := fun k => match k with
  | _ => ("", "", "", false)
def tyJ7 : Nat → FieldType := fun k => match k with
  | _ => .int
abbrev wsJ70 : List Cond := u_ws RJ7 TJ7 0
theorem nmJ7 : ∀ a, a < 0 → ∀ b, b < 0 → a ≠ b → (TJ7 a).2.1 ≠ (TJ7 b).2.1 := by decide +kernel
theorem tyJ7_ok : ∀ k, k < 0 → parseFieldDescriptor (TJ7 k).2.2.1 = some (tyJ7 k) := by decide +kernel
abbrev cJ7_fill_53178 : ByteArray := prog_29_method_103_code
def yJ7_fill_53178 : MethodName := ⟨RJ7, "fill", "([II)V"⟩
def RJ3 : String := "jdk/internal/util/Preconditions"
def TJ3 : u_T := fun k => match k with
  | _ => ("", "", "", false)
def tyJ3 : Nat → FieldType := fun k => match k with
  | _ => .int
abbrev wsJ30 : List Cond := u_ws RJ3 TJ3 0
theorem nmJ3 : ∀ a, a < 0 → ∀ b, b < 0 → a ≠ b → (TJ3 a).2.1 ≠ (TJ3 b).2.1 := by decide +kernel
theorem tyJ3_ok : ∀ k, k < 0 → parseFieldDescriptor (TJ3 k).2.2.1 = some (tyJ3 k) := by decide +kernel
abbrev cJ3_checkIndex_8e157 : ByteArray := prog_31_method_11_code
def yJ3_checkIndex_8e157 : MethodName := ⟨RJ3, "checkIndex", "(IILjava/util/function/BiFunction;)I"⟩
def RL : String := "BlockedCarsLaw"
abbrev cL_yard : ByteArray := method_3_code
def yL_yard : MethodName := ⟨RL, "yard", "(LBlockedCars;I[J)I"⟩
abbrev cL_law : ByteArray := method_4_code
def yL_law : MethodName := ⟨RL, "law", "(LBlockedCars;I[J)I"⟩
abbrev cL_work : ByteArray := method_5_code
def yL_work : MethodName := ⟨RL, "work", "(LBlockedCars;I[J)I"⟩
abbrev cL_spots : ByteArray := method_6_code
def yL_spots : MethodName := ⟨RL, "spots", "(LBlockedCars;I[J)I"⟩
abbrev cL_told : ByteArray := method_7_code
def yL_told : MethodName := ⟨RL, "told", "(LBlockedCars;I[J)I"⟩
abbrev cL_lane : ByteArray := method_8_code
def yL_lane : MethodName := ⟨RL, "lane", "(LBlockedCars;II[J)I"⟩
abbrev cL_car : ByteArray := method_9_code
def yL_car : MethodName := ⟨RL, "car", "(LBlockedCars;II[J)I"⟩
abbrev cL_on : ByteArray := method_10_code
def yL_on : MethodName := ⟨RL, "on", "(LBlockedCars;II[J)I"⟩
abbrev cL_seconds : ByteArray := method_11_code
def yL_seconds : MethodName := ⟨RL, "seconds", "(LBlockedCars;II[J)I"⟩
abbrev cL_would : ByteArray := method_12_code
def yL_would : MethodName := ⟨RL, "would", "(LBlockedCars;IIIIIIII[J)I"⟩
abbrev cL_ahead : ByteArray := method_13_code
def yL_ahead : MethodName := ⟨RL, "ahead", "(LBlockedCars;I[J)I"⟩
abbrev cL_frees : ByteArray := method_14_code
def yL_frees : MethodName := ⟨RL, "frees", "(LBlockedCars;II[J)I"⟩
abbrev cL_morning : ByteArray := method_15_code
def yL_morning : MethodName := ⟨RL, "morning", "(LBlockedCars;I[J)I"⟩
abbrev cL_corner : ByteArray := method_16_code
def yL_corner : MethodName := ⟨RL, "corner", "(LBlockedCars;I[J)I"⟩
abbrev cL_goes : ByteArray := method_17_code
def yL_goes : MethodName := ⟨RL, "goes", "(LBlockedCars;I[J)I"⟩
abbrev cL_evening : ByteArray := method_18_code
def yL_evening : MethodName := ⟨RL, "evening", "(LBlockedCars;II[J)I"⟩
abbrev cL_sure : ByteArray := method_19_code
def yL_sure : MethodName := ⟨RL, "sure", "(LBlockedCars;III[J)I"⟩
abbrev cL_leaks : ByteArray := method_20_code
def yL_leaks : MethodName := ⟨RL, "leaks", "(LBlockedCars;I[J)I"⟩
abbrev cL_look : ByteArray := method_21_code
def yL_look : MethodName := ⟨RL, "look", "(LBlockedCars;I[J)I"⟩
abbrev cL_fronts : ByteArray := method_22_code
def yL_fronts : MethodName := ⟨RL, "fronts", "(LBlockedCars;IIII[J)I"⟩
abbrev cL_pays : ByteArray := method_23_code
def yL_pays : MethodName := ⟨RL, "pays", "(LBlockedCars;III[J)I"⟩
abbrev cL_spare : ByteArray := method_24_code
def yL_spare : MethodName := ⟨RL, "spare", "(LBlockedCars;I[J)I"⟩
abbrev cL_next : ByteArray := method_25_code
def yL_next : MethodName := ⟨RL, "next", "(LBlockedCars;I[J)I"⟩
abbrev cL_most : ByteArray := method_26_code
def yL_most : MethodName := ⟨RL, "most", "(LBlockedCars;I[J)I"⟩
abbrev cL_days : ByteArray := method_27_code
def yL_days : MethodName := ⟨RL, "days", "(LBlockedCars;IIII[J)I"⟩
abbrev cL_span : ByteArray := method_28_code
def yL_span : MethodName := ⟨RL, "span", "(LBlockedCars;IIIIII[J)I"⟩
abbrev cL_law_ : ByteArray := code
def yL_law_ : MethodName := ⟨RL, "law", "([I)Z"⟩
abbrev vwCl : List vw_C := [(RX0, TX0, 4), (RX1, TX1, 4), (RX2, TX2, 2), (RX3, TX3, 3), (RX4, TX4, 7), (RX5, TX5, 12), (RX6, TX6, 5), (RX8, TX8, 8), (RX9, TX9, 11), (RX10, TX10, 16), (RX11, TX11, 53)]
