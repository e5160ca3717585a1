section
-- ===== PART A: goes FIRST, ahead of the names: the tables' words, and 'selects' of the private methods out of them =====
/-- a private method of a class that the tables say can be made, by its rows of tables_1 -/
def lw_okq (q : MethodName × Nat) : Prop := (q.1.cls ≠ "java/lang/invoke/MethodHandle" ∧ q.1.cls ≠ "java/lang/invoke/VarHandle") ∧ Cond.instantiable q.1.cls q.2 ∈ tables_1 ∧ Cond.privateMethod q.1 ∈ tables_1 ∧ Cond.instanceMethod q.1 ∈ tables_1
theorem lw_p0 : lw_okq (⟨"BlockedCars$Law", "writeDefault", "()V"⟩, 4) := ⟨⟨by decide +kernel, by decide +kernel⟩, List.mem_of_getElem? (i := 123) (by decide +kernel), List.mem_of_getElem? (i := 129) (by decide +kernel), List.mem_of_getElem? (i := 130) (by decide +kernel)⟩
theorem lw_p1 : lw_okq (⟨"BlockedCars$Law", "write", "(I)V"⟩, 4) := ⟨⟨by decide +kernel, by decide +kernel⟩, List.mem_of_getElem? (i := 123) (by decide +kernel), List.mem_of_getElem? (i := 133) (by decide +kernel), List.mem_of_getElem? (i := 134) (by decide +kernel)⟩
theorem lw_p2 : lw_okq (⟨"BlockedCars", "need", "(Z)V"⟩, 16) := ⟨⟨by decide +kernel, by decide +kernel⟩, List.mem_of_getElem? (i := 27) (by decide +kernel), List.mem_of_getElem? (i := 416) (by decide +kernel), List.mem_of_getElem? (i := 417) (by decide +kernel)⟩
theorem lw_p3 : lw_okq (⟨"java/lang/Throwable", "fillInStackTrace", "(I)Ljava/lang/Throwable;"⟩, 6) := ⟨⟨by decide +kernel, by decide +kernel⟩, List.mem_of_getElem? (i := 457) (by decide +kernel), List.mem_of_getElem? (i := 455) (by decide +kernel), List.mem_of_getElem? (i := 456) (by decide +kernel)⟩
theorem lw_p4 : lw_okq (⟨"BlockedCars$Yard", "readClause", "(LBlockedCars$Reader;I)V"⟩, 11) := ⟨⟨by decide +kernel, by decide +kernel⟩, List.mem_of_getElem? (i := 72) (by decide +kernel), List.mem_of_getElem? (i := 509) (by decide +kernel), List.mem_of_getElem? (i := 510) (by decide +kernel)⟩
theorem lw_p5 : lw_okq (⟨"BlockedCars$Yard", "readLane", "(LBlockedCars$Reader;)V"⟩, 11) := ⟨⟨by decide +kernel, by decide +kernel⟩, List.mem_of_getElem? (i := 72) (by decide +kernel), List.mem_of_getElem? (i := 584) (by decide +kernel), List.mem_of_getElem? (i := 585) (by decide +kernel)⟩
theorem lw_p6 : lw_okq (⟨"BlockedCars$Yard", "readCar", "(LBlockedCars$Reader;)V"⟩, 11) := ⟨⟨by decide +kernel, by decide +kernel⟩, List.mem_of_getElem? (i := 72) (by decide +kernel), List.mem_of_getElem? (i := 601) (by decide +kernel), List.mem_of_getElem? (i := 602) (by decide +kernel)⟩
theorem lw_p7 : lw_okq (⟨"BlockedCars$Yard", "readKey", "(LBlockedCars$Reader;)V"⟩, 11) := ⟨⟨by decide +kernel, by decide +kernel⟩, List.mem_of_getElem? (i := 72) (by decide +kernel), List.mem_of_getElem? (i := 605) (by decide +kernel), List.mem_of_getElem? (i := 606) (by decide +kernel)⟩
theorem lw_p8 : lw_okq (⟨"BlockedCars$Yard", "order", "()V"⟩, 11) := ⟨⟨by decide +kernel, by decide +kernel⟩, List.mem_of_getElem? (i := 72) (by decide +kernel), List.mem_of_getElem? (i := 613) (by decide +kernel), List.mem_of_getElem? (i := 614) (by decide +kernel)⟩
theorem lw_p9 : lw_okq (⟨"BlockedCars$Yard", "isSooner", "(II)Z"⟩, 11) := ⟨⟨by decide +kernel, by decide +kernel⟩, List.mem_of_getElem? (i := 72) (by decide +kernel), List.mem_of_getElem? (i := 617) (by decide +kernel), List.mem_of_getElem? (i := 618) (by decide +kernel)⟩
theorem lw_p10 : lw_okq (⟨"BlockedCars$Law", "readSum", "(LBlockedCars$Reader;I)V"⟩, 4) := ⟨⟨by decide +kernel, by decide +kernel⟩, List.mem_of_getElem? (i := 123) (by decide +kernel), List.mem_of_getElem? (i := 649) (by decide +kernel), List.mem_of_getElem? (i := 650) (by decide +kernel)⟩
theorem lw_p11 : lw_okq (⟨"BlockedCars$Law", "readProduct", "(LBlockedCars$Reader;I)V"⟩, 4) := ⟨⟨by decide +kernel, by decide +kernel⟩, List.mem_of_getElem? (i := 123) (by decide +kernel), List.mem_of_getElem? (i := 653) (by decide +kernel), List.mem_of_getElem? (i := 654) (by decide +kernel)⟩
theorem lw_p12 : lw_okq (⟨"BlockedCars$Law", "readUnit", "(LBlockedCars$Reader;I)V"⟩, 4) := ⟨⟨by decide +kernel, by decide +kernel⟩, List.mem_of_getElem? (i := 123) (by decide +kernel), List.mem_of_getElem? (i := 657) (by decide +kernel), List.mem_of_getElem? (i := 658) (by decide +kernel)⟩
theorem lw_p13 : lw_okq (⟨"BlockedCars$Law", "readBracket", "(LBlockedCars$Reader;I)V"⟩, 4) := ⟨⟨by decide +kernel, by decide +kernel⟩, List.mem_of_getElem? (i := 123) (by decide +kernel), List.mem_of_getElem? (i := 666) (by decide +kernel), List.mem_of_getElem? (i := 667) (by decide +kernel)⟩
theorem lw_p14 : lw_okq (⟨"BlockedCars$Law", "readTwo", "(LBlockedCars$Reader;II)V"⟩, 4) := ⟨⟨by decide +kernel, by decide +kernel⟩, List.mem_of_getElem? (i := 123) (by decide +kernel), List.mem_of_getElem? (i := 688) (by decide +kernel), List.mem_of_getElem? (i := 689) (by decide +kernel)⟩
theorem lw_p15 : lw_okq (⟨"BlockedCars$Work", "readSteps", "(LBlockedCars$Reader;LBlockedCars$Yard;I)V"⟩, 8) := ⟨⟨by decide +kernel, by decide +kernel⟩, List.mem_of_getElem? (i := 173) (by decide +kernel), List.mem_of_getElem? (i := 710) (by decide +kernel), List.mem_of_getElem? (i := 711) (by decide +kernel)⟩
def lw_privs_1 : List (MethodName × Nat) := [(⟨"BlockedCars$Law", "writeDefault", "()V"⟩, 4), (⟨"BlockedCars$Law", "write", "(I)V"⟩, 4), (⟨"BlockedCars", "need", "(Z)V"⟩, 16), (⟨"java/lang/Throwable", "fillInStackTrace", "(I)Ljava/lang/Throwable;"⟩, 6), (⟨"BlockedCars$Yard", "readClause", "(LBlockedCars$Reader;I)V"⟩, 11), (⟨"BlockedCars$Yard", "readLane", "(LBlockedCars$Reader;)V"⟩, 11), (⟨"BlockedCars$Yard", "readCar", "(LBlockedCars$Reader;)V"⟩, 11), (⟨"BlockedCars$Yard", "readKey", "(LBlockedCars$Reader;)V"⟩, 11), (⟨"BlockedCars$Yard", "order", "()V"⟩, 11), (⟨"BlockedCars$Yard", "isSooner", "(II)Z"⟩, 11), (⟨"BlockedCars$Law", "readSum", "(LBlockedCars$Reader;I)V"⟩, 4), (⟨"BlockedCars$Law", "readProduct", "(LBlockedCars$Reader;I)V"⟩, 4), (⟨"BlockedCars$Law", "readUnit", "(LBlockedCars$Reader;I)V"⟩, 4), (⟨"BlockedCars$Law", "readBracket", "(LBlockedCars$Reader;I)V"⟩, 4), (⟨"BlockedCars$Law", "readTwo", "(LBlockedCars$Reader;II)V"⟩, 4), (⟨"BlockedCars$Work", "readSteps", "(LBlockedCars$Reader;LBlockedCars$Yard;I)V"⟩, 8)]
theorem lw_r1 : ∀ q ∈ lw_privs_1, lw_okq q := List.forall_mem_cons.mpr ⟨lw_p0, List.forall_mem_cons.mpr ⟨lw_p1, List.forall_mem_cons.mpr ⟨lw_p2, List.forall_mem_cons.mpr ⟨lw_p3, List.forall_mem_cons.mpr ⟨lw_p4, List.forall_mem_cons.mpr ⟨lw_p5, List.forall_mem_cons.mpr ⟨lw_p6, List.forall_mem_cons.mpr ⟨lw_p7, List.forall_mem_cons.mpr ⟨lw_p8, List.forall_mem_cons.mpr ⟨lw_p9, List.forall_mem_cons.mpr ⟨lw_p10, List.forall_mem_cons.mpr ⟨lw_p11, List.forall_mem_cons.mpr ⟨lw_p12, List.forall_mem_cons.mpr ⟨lw_p13, List.forall_mem_cons.mpr ⟨lw_p14, List.forall_mem_cons.mpr ⟨lw_p15, fun _ h => absurd h List.not_mem_nil⟩⟩⟩⟩⟩⟩⟩⟩⟩⟩⟩⟩⟩⟩⟩⟩
theorem lw_p16 : lw_okq (⟨"BlockedCars$Work", "readStep", "(LBlockedCars$Reader;LBlockedCars$Yard;I)V"⟩, 8) := ⟨⟨by decide +kernel, by decide +kernel⟩, List.mem_of_getElem? (i := 173) (by decide +kernel), List.mem_of_getElem? (i := 717) (by decide +kernel), List.mem_of_getElem? (i := 718) (by decide +kernel)⟩
theorem lw_p17 : lw_okq (⟨"BlockedCars$Work", "write", "(IIII)V"⟩, 8) := ⟨⟨by decide +kernel, by decide +kernel⟩, List.mem_of_getElem? (i := 173) (by decide +kernel), List.mem_of_getElem? (i := 728) (by decide +kernel), List.mem_of_getElem? (i := 729) (by decide +kernel)⟩
theorem lw_p18 : lw_okq (⟨"BlockedCars$Work", "readAgain", "(LBlockedCars$Reader;LBlockedCars$Yard;I)V"⟩, 8) := ⟨⟨by decide +kernel, by decide +kernel⟩, List.mem_of_getElem? (i := 173) (by decide +kernel), List.mem_of_getElem? (i := 736) (by decide +kernel), List.mem_of_getElem? (i := 737) (by decide +kernel)⟩
theorem lw_p19 : lw_okq (⟨"BlockedCars$Work", "endRound", "(I)I"⟩, 8) := ⟨⟨by decide +kernel, by decide +kernel⟩, List.mem_of_getElem? (i := 173) (by decide +kernel), List.mem_of_getElem? (i := 757) (by decide +kernel), List.mem_of_getElem? (i := 758) (by decide +kernel)⟩
theorem lw_p20 : lw_okq (⟨"BlockedCars$Work", "doStep", "(ILBlockedCars$Yard;LBlockedCars$Law;LBlockedCars$Position;)Z"⟩, 8) := ⟨⟨by decide +kernel, by decide +kernel⟩, List.mem_of_getElem? (i := 173) (by decide +kernel), List.mem_of_getElem? (i := 761) (by decide +kernel), List.mem_of_getElem? (i := 762) (by decide +kernel)⟩
theorem lw_p21 : lw_okq (⟨"BlockedCars$Work", "move", "(ILBlockedCars$Yard;LBlockedCars$Law;LBlockedCars$Position;)Z"⟩, 8) := ⟨⟨by decide +kernel, by decide +kernel⟩, List.mem_of_getElem? (i := 173) (by decide +kernel), List.mem_of_getElem? (i := 800) (by decide +kernel), List.mem_of_getElem? (i := 801) (by decide +kernel)⟩
theorem lw_p22 : lw_okq (⟨"BlockedCars$Yard", "widestLane", "(J)I"⟩, 11) := ⟨⟨by decide +kernel, by decide +kernel⟩, List.mem_of_getElem? (i := 72) (by decide +kernel), List.mem_of_getElem? (i := 866) (by decide +kernel), List.mem_of_getElem? (i := 867) (by decide +kernel)⟩
theorem lw_p23 : lw_okq (⟨"BlockedCars$Work", "countStep", "(Z)V"⟩, 8) := ⟨⟨by decide +kernel, by decide +kernel⟩, List.mem_of_getElem? (i := 173) (by decide +kernel), List.mem_of_getElem? (i := 876) (by decide +kernel), List.mem_of_getElem? (i := 877) (by decide +kernel)⟩
theorem lw_p24 : lw_okq (⟨"BlockedCars$Spots", "readLine", "(LBlockedCars$Reader;LBlockedCars$Yard;)V"⟩, 5) := ⟨⟨by decide +kernel, by decide +kernel⟩, List.mem_of_getElem? (i := 150) (by decide +kernel), List.mem_of_getElem? (i := 894) (by decide +kernel), List.mem_of_getElem? (i := 895) (by decide +kernel)⟩
theorem lw_p25 : lw_okq (⟨"BlockedCars", "roomOfAll", "(J)I"⟩, 16) := ⟨⟨by decide +kernel, by decide +kernel⟩, List.mem_of_getElem? (i := 27) (by decide +kernel), List.mem_of_getElem? (i := 924) (by decide +kernel), List.mem_of_getElem? (i := 925) (by decide +kernel)⟩
theorem lw_p26 : lw_okq (⟨"BlockedCars", "needLane", "(I)V"⟩, 16) := ⟨⟨by decide +kernel, by decide +kernel⟩, List.mem_of_getElem? (i := 27) (by decide +kernel), List.mem_of_getElem? (i := 937) (by decide +kernel), List.mem_of_getElem? (i := 938) (by decide +kernel)⟩
theorem lw_p27 : lw_okq (⟨"BlockedCars", "needCar", "(I)V"⟩, 16) := ⟨⟨by decide +kernel, by decide +kernel⟩, List.mem_of_getElem? (i := 27) (by decide +kernel), List.mem_of_getElem? (i := 970) (by decide +kernel), List.mem_of_getElem? (i := 971) (by decide +kernel)⟩
theorem lw_p28 : lw_okq (⟨"BlockedCars$Search", "isReached", "(J)Z"⟩, 12) := ⟨⟨by decide +kernel, by decide +kernel⟩, List.mem_of_getElem? (i := 243) (by decide +kernel), List.mem_of_getElem? (i := 1043) (by decide +kernel), List.mem_of_getElem? (i := 1044) (by decide +kernel)⟩
theorem lw_p29 : lw_okq (⟨"BlockedCars$Search", "leastFrom", "(J)I"⟩, 12) := ⟨⟨by decide +kernel, by decide +kernel⟩, List.mem_of_getElem? (i := 243) (by decide +kernel), List.mem_of_getElem? (i := 1048) (by decide +kernel), List.mem_of_getElem? (i := 1049) (by decide +kernel)⟩
theorem lw_p30 : lw_okq (⟨"BlockedCars$Search", "spread", "(J)V"⟩, 12) := ⟨⟨by decide +kernel, by decide +kernel⟩, List.mem_of_getElem? (i := 243) (by decide +kernel), List.mem_of_getElem? (i := 1054) (by decide +kernel), List.mem_of_getElem? (i := 1055) (by decide +kernel)⟩
theorem lw_p31 : lw_okq (⟨"BlockedCars$Search", "keep", "(JI)V"⟩, 12) := ⟨⟨by decide +kernel, by decide +kernel⟩, List.mem_of_getElem? (i := 243) (by decide +kernel), List.mem_of_getElem? (i := 1062) (by decide +kernel), List.mem_of_getElem? (i := 1063) (by decide +kernel)⟩
def lw_privs_2 : List (MethodName × Nat) := [(⟨"BlockedCars$Work", "readStep", "(LBlockedCars$Reader;LBlockedCars$Yard;I)V"⟩, 8), (⟨"BlockedCars$Work", "write", "(IIII)V"⟩, 8), (⟨"BlockedCars$Work", "readAgain", "(LBlockedCars$Reader;LBlockedCars$Yard;I)V"⟩, 8), (⟨"BlockedCars$Work", "endRound", "(I)I"⟩, 8), (⟨"BlockedCars$Work", "doStep", "(ILBlockedCars$Yard;LBlockedCars$Law;LBlockedCars$Position;)Z"⟩, 8), (⟨"BlockedCars$Work", "move", "(ILBlockedCars$Yard;LBlockedCars$Law;LBlockedCars$Position;)Z"⟩, 8), (⟨"BlockedCars$Yard", "widestLane", "(J)I"⟩, 11), (⟨"BlockedCars$Work", "countStep", "(Z)V"⟩, 8), (⟨"BlockedCars$Spots", "readLine", "(LBlockedCars$Reader;LBlockedCars$Yard;)V"⟩, 5), (⟨"BlockedCars", "roomOfAll", "(J)I"⟩, 16), (⟨"BlockedCars", "needLane", "(I)V"⟩, 16), (⟨"BlockedCars", "needCar", "(I)V"⟩, 16), (⟨"BlockedCars$Search", "isReached", "(J)Z"⟩, 12), (⟨"BlockedCars$Search", "leastFrom", "(J)I"⟩, 12), (⟨"BlockedCars$Search", "spread", "(J)V"⟩, 12), (⟨"BlockedCars$Search", "keep", "(JI)V"⟩, 12)]
theorem lw_r2 : ∀ q ∈ lw_privs_2, lw_okq q := List.forall_mem_cons.mpr ⟨lw_p16, List.forall_mem_cons.mpr ⟨lw_p17, List.forall_mem_cons.mpr ⟨lw_p18, List.forall_mem_cons.mpr ⟨lw_p19, List.forall_mem_cons.mpr ⟨lw_p20, List.forall_mem_cons.mpr ⟨lw_p21, List.forall_mem_cons.mpr ⟨lw_p22, List.forall_mem_cons.mpr ⟨lw_p23, List.forall_mem_cons.mpr ⟨lw_p24, List.forall_mem_cons.mpr ⟨lw_p25, List.forall_mem_cons.mpr ⟨lw_p26, List.forall_mem_cons.mpr ⟨lw_p27, List.forall_mem_cons.mpr ⟨lw_p28, List.forall_mem_cons.mpr ⟨lw_p29, List.forall_mem_cons.mpr ⟨lw_p30, List.forall_mem_cons.mpr ⟨lw_p31, fun _ h => absurd h List.not_mem_nil⟩⟩⟩⟩⟩⟩⟩⟩⟩⟩⟩⟩⟩⟩⟩⟩
theorem lw_p32 : lw_okq (⟨"BlockedCars$Search", "moveFrom", "(II)V"⟩, 12) := ⟨⟨by decide +kernel, by decide +kernel⟩, List.mem_of_getElem? (i := 243) (by decide +kernel), List.mem_of_getElem? (i := 1067) (by decide +kernel), List.mem_of_getElem? (i := 1068) (by decide +kernel)⟩
theorem lw_p33 : lw_okq (⟨"BlockedCars$Search", "roomOf", "(JI)I"⟩, 12) := ⟨⟨by decide +kernel, by decide +kernel⟩, List.mem_of_getElem? (i := 243) (by decide +kernel), List.mem_of_getElem? (i := 1077) (by decide +kernel), List.mem_of_getElem? (i := 1078) (by decide +kernel)⟩
theorem lw_p34 : lw_okq (⟨"BlockedCars$Search", "arrive", "(JII)V"⟩, 12) := ⟨⟨by decide +kernel, by decide +kernel⟩, List.mem_of_getElem? (i := 243) (by decide +kernel), List.mem_of_getElem? (i := 1085) (by decide +kernel), List.mem_of_getElem? (i := 1086) (by decide +kernel)⟩
theorem lw_p35 : lw_okq (⟨"BlockedCars$Yard", "firstOtherLane", "(JII)I"⟩, 11) := ⟨⟨by decide +kernel, by decide +kernel⟩, List.mem_of_getElem? (i := 72) (by decide +kernel), List.mem_of_getElem? (i := 1119) (by decide +kernel), List.mem_of_getElem? (i := 1120) (by decide +kernel)⟩
theorem lw_p36 : lw_okq (⟨"BlockedCars", "areCars", "(I)Z"⟩, 16) := ⟨⟨by decide +kernel, by decide +kernel⟩, List.mem_of_getElem? (i := 27) (by decide +kernel), List.mem_of_getElem? (i := 1130) (by decide +kernel), List.mem_of_getElem? (i := 1131) (by decide +kernel)⟩
theorem lw_p37 : lw_okq (⟨"BlockedCars$Yard", "eveningBy", "(II)I"⟩, 11) := ⟨⟨by decide +kernel, by decide +kernel⟩, List.mem_of_getElem? (i := 72) (by decide +kernel), List.mem_of_getElem? (i := 1138) (by decide +kernel), List.mem_of_getElem? (i := 1139) (by decide +kernel)⟩
theorem lw_p38 : lw_okq (⟨"BlockedCars$Spots", "isRight", "(I)Z"⟩, 5) := ⟨⟨by decide +kernel, by decide +kernel⟩, List.mem_of_getElem? (i := 150) (by decide +kernel), List.mem_of_getElem? (i := 1166) (by decide +kernel), List.mem_of_getElem? (i := 1167) (by decide +kernel)⟩
theorem lw_p39 : lw_okq (⟨"BlockedCars$Days", "drawIll", "(LBlockedCars$Yard;I)I"⟩, 4) := ⟨⟨by decide +kernel, by decide +kernel⟩, List.mem_of_getElem? (i := 291) (by decide +kernel), List.mem_of_getElem? (i := 1254) (by decide +kernel), List.mem_of_getElem? (i := 1255) (by decide +kernel)⟩
theorem lw_p40 : lw_okq (⟨"BlockedCars$Days", "draw", "(I)I"⟩, 4) := ⟨⟨by decide +kernel, by decide +kernel⟩, List.mem_of_getElem? (i := 291) (by decide +kernel), List.mem_of_getElem? (i := 1258) (by decide +kernel), List.mem_of_getElem? (i := 1259) (by decide +kernel)⟩
theorem lw_p41 : lw_okq (⟨"BlockedCars$Days", "letLaneOut", "(II)V"⟩, 4) := ⟨⟨by decide +kernel, by decide +kernel⟩, List.mem_of_getElem? (i := 291) (by decide +kernel), List.mem_of_getElem? (i := 1264) (by decide +kernel), List.mem_of_getElem? (i := 1265) (by decide +kernel)⟩
theorem lw_p42 : lw_okq (⟨"BlockedCarsModel", "tellsNothing", "()V"⟩, 53) := ⟨⟨by decide +kernel, by decide +kernel⟩, List.mem_of_getElem? (i := 1279) (by decide +kernel), List.mem_of_getElem? (i := 1288) (by decide +kernel), List.mem_of_getElem? (i := 1289) (by decide +kernel)⟩
theorem lw_p43 : lw_okq (⟨"BlockedCarsModel", "beginsAnew", "()V"⟩, 53) := ⟨⟨by decide +kernel, by decide +kernel⟩, List.mem_of_getElem? (i := 1279) (by decide +kernel), List.mem_of_getElem? (i := 1292) (by decide +kernel), List.mem_of_getElem? (i := 1293) (by decide +kernel)⟩
theorem lw_p44 : lw_okq (⟨"BlockedCarsModel", "bad", "(ZII)Z"⟩, 53) := ⟨⟨by decide +kernel, by decide +kernel⟩, List.mem_of_getElem? (i := 1279) (by decide +kernel), List.mem_of_getElem? (i := 1474) (by decide +kernel), List.mem_of_getElem? (i := 1475) (by decide +kernel)⟩
theorem lw_p45 : lw_okq (⟨"BlockedCarsModel", "starts", "(I)V"⟩, 53) := ⟨⟨by decide +kernel, by decide +kernel⟩, List.mem_of_getElem? (i := 1279) (by decide +kernel), List.mem_of_getElem? (i := 1478) (by decide +kernel), List.mem_of_getElem? (i := 1479) (by decide +kernel)⟩
theorem lw_p46 : lw_okq (⟨"BlockedCarsModel", "blanks", "()V"⟩, 53) := ⟨⟨by decide +kernel, by decide +kernel⟩, List.mem_of_getElem? (i := 1279) (by decide +kernel), List.mem_of_getElem? (i := 1482) (by decide +kernel), List.mem_of_getElem? (i := 1483) (by decide +kernel)⟩
theorem lw_p47 : lw_okq (⟨"BlockedCarsModel", "byteAt", "(I)I"⟩, 53) := ⟨⟨by decide +kernel, by decide +kernel⟩, List.mem_of_getElem? (i := 1279) (by decide +kernel), List.mem_of_getElem? (i := 1486) (by decide +kernel), List.mem_of_getElem? (i := 1487) (by decide +kernel)⟩
def lw_privs_3 : List (MethodName × Nat) := [(⟨"BlockedCars$Search", "moveFrom", "(II)V"⟩, 12), (⟨"BlockedCars$Search", "roomOf", "(JI)I"⟩, 12), (⟨"BlockedCars$Search", "arrive", "(JII)V"⟩, 12), (⟨"BlockedCars$Yard", "firstOtherLane", "(JII)I"⟩, 11), (⟨"BlockedCars", "areCars", "(I)Z"⟩, 16), (⟨"BlockedCars$Yard", "eveningBy", "(II)I"⟩, 11), (⟨"BlockedCars$Spots", "isRight", "(I)Z"⟩, 5), (⟨"BlockedCars$Days", "drawIll", "(LBlockedCars$Yard;I)I"⟩, 4), (⟨"BlockedCars$Days", "draw", "(I)I"⟩, 4), (⟨"BlockedCars$Days", "letLaneOut", "(II)V"⟩, 4), (⟨"BlockedCarsModel", "tellsNothing", "()V"⟩, 53), (⟨"BlockedCarsModel", "beginsAnew", "()V"⟩, 53), (⟨"BlockedCarsModel", "bad", "(ZII)Z"⟩, 53), (⟨"BlockedCarsModel", "starts", "(I)V"⟩, 53), (⟨"BlockedCarsModel", "blanks", "()V"⟩, 53), (⟨"BlockedCarsModel", "byteAt", "(I)I"⟩, 53)]
theorem lw_r3 : ∀ q ∈ lw_privs_3, lw_okq q := List.forall_mem_cons.mpr ⟨lw_p32, List.forall_mem_cons.mpr ⟨lw_p33, List.forall_mem_cons.mpr ⟨lw_p34, List.forall_mem_cons.mpr ⟨lw_p35, List.forall_mem_cons.mpr ⟨lw_p36, List.forall_mem_cons.mpr ⟨lw_p37, List.forall_mem_cons.mpr ⟨lw_p38, List.forall_mem_cons.mpr ⟨lw_p39, List.forall_mem_cons.mpr ⟨lw_p40, List.forall_mem_cons.mpr ⟨lw_p41, List.forall_mem_cons.mpr ⟨lw_p42, List.forall_mem_cons.mpr ⟨lw_p43, List.forall_mem_cons.mpr ⟨lw_p44, List.forall_mem_cons.mpr ⟨lw_p45, List.forall_mem_cons.mpr ⟨lw_p46, List.forall_mem_cons.mpr ⟨lw_p47, fun _ h => absurd h List.not_mem_nil⟩⟩⟩⟩⟩⟩⟩⟩⟩⟩⟩⟩⟩⟩⟩⟩
theorem lw_p48 : lw_okq (⟨"BlockedCarsModel", "clause", "()V"⟩, 53) := ⟨⟨by decide +kernel, by decide +kernel⟩, List.mem_of_getElem? (i := 1279) (by decide +kernel), List.mem_of_getElem? (i := 1490) (by decide +kernel), List.mem_of_getElem? (i := 1491) (by decide +kernel)⟩
theorem lw_p49 : lw_okq (⟨"BlockedCarsModel", "kindHere", "()I"⟩, 53) := ⟨⟨by decide +kernel, by decide +kernel⟩, List.mem_of_getElem? (i := 1279) (by decide +kernel), List.mem_of_getElem? (i := 1494) (by decide +kernel), List.mem_of_getElem? (i := 1495) (by decide +kernel)⟩
theorem lw_p50 : lw_okq (⟨"BlockedCarsModel", "isWord", "(IIIIII)Z"⟩, 53) := ⟨⟨by decide +kernel, by decide +kernel⟩, List.mem_of_getElem? (i := 1279) (by decide +kernel), List.mem_of_getElem? (i := 1498) (by decide +kernel), List.mem_of_getElem? (i := 1499) (by decide +kernel)⟩
theorem lw_p51 : lw_okq (⟨"BlockedCarsModel", "wordHere", "()I"⟩, 53) := ⟨⟨by decide +kernel, by decide +kernel⟩, List.mem_of_getElem? (i := 1279) (by decide +kernel), List.mem_of_getElem? (i := 1502) (by decide +kernel), List.mem_of_getElem? (i := 1503) (by decide +kernel)⟩
theorem lw_p52 : lw_okq (⟨"BlockedCarsModel", "wrong", "(II)V"⟩, 53) := ⟨⟨by decide +kernel, by decide +kernel⟩, List.mem_of_getElem? (i := 1279) (by decide +kernel), List.mem_of_getElem? (i := 1512) (by decide +kernel), List.mem_of_getElem? (i := 1513) (by decide +kernel)⟩
theorem lw_p53 : lw_okq (⟨"BlockedCarsModel", "skipWord", "()V"⟩, 53) := ⟨⟨by decide +kernel, by decide +kernel⟩, List.mem_of_getElem? (i := 1279) (by decide +kernel), List.mem_of_getElem? (i := 1516) (by decide +kernel), List.mem_of_getElem? (i := 1517) (by decide +kernel)⟩
theorem lw_p54 : lw_okq (⟨"BlockedCarsModel", "number", "(II)I"⟩, 53) := ⟨⟨by decide +kernel, by decide +kernel⟩, List.mem_of_getElem? (i := 1279) (by decide +kernel), List.mem_of_getElem? (i := 1520) (by decide +kernel), List.mem_of_getElem? (i := 1521) (by decide +kernel)⟩
theorem lw_p55 : lw_okq (⟨"BlockedCarsModel", "sign", "(I)V"⟩, 53) := ⟨⟨by decide +kernel, by decide +kernel⟩, List.mem_of_getElem? (i := 1279) (by decide +kernel), List.mem_of_getElem? (i := 1528) (by decide +kernel), List.mem_of_getElem? (i := 1529) (by decide +kernel)⟩
theorem lw_p56 : lw_okq (⟨"BlockedCarsModel", "ends", "()I"⟩, 53) := ⟨⟨by decide +kernel, by decide +kernel⟩, List.mem_of_getElem? (i := 1279) (by decide +kernel), List.mem_of_getElem? (i := 1532) (by decide +kernel), List.mem_of_getElem? (i := 1533) (by decide +kernel)⟩
theorem lw_p57 : lw_okq (⟨"BlockedCarsModel", "sum", "()V"⟩, 53) := ⟨⟨by decide +kernel, by decide +kernel⟩, List.mem_of_getElem? (i := 1279) (by decide +kernel), List.mem_of_getElem? (i := 1540) (by decide +kernel), List.mem_of_getElem? (i := 1541) (by decide +kernel)⟩
theorem lw_p58 : lw_okq (⟨"BlockedCarsModel", "product", "()V"⟩, 53) := ⟨⟨by decide +kernel, by decide +kernel⟩, List.mem_of_getElem? (i := 1279) (by decide +kernel), List.mem_of_getElem? (i := 1544) (by decide +kernel), List.mem_of_getElem? (i := 1545) (by decide +kernel)⟩
theorem lw_p59 : lw_okq (⟨"BlockedCarsModel", "one", "()V"⟩, 53) := ⟨⟨by decide +kernel, by decide +kernel⟩, List.mem_of_getElem? (i := 1279) (by decide +kernel), List.mem_of_getElem? (i := 1548) (by decide +kernel), List.mem_of_getElem? (i := 1549) (by decide +kernel)⟩
theorem lw_p60 : lw_okq (⟨"BlockedCarsModel", "opensOne", "()Z"⟩, 53) := ⟨⟨by decide +kernel, by decide +kernel⟩, List.mem_of_getElem? (i := 1279) (by decide +kernel), List.mem_of_getElem? (i := 1552) (by decide +kernel), List.mem_of_getElem? (i := 1553) (by decide +kernel)⟩
theorem lw_p61 : lw_okq (⟨"BlockedCarsModel", "notes", "(II)V"⟩, 53) := ⟨⟨by decide +kernel, by decide +kernel⟩, List.mem_of_getElem? (i := 1279) (by decide +kernel), List.mem_of_getElem? (i := 1556) (by decide +kernel), List.mem_of_getElem? (i := 1557) (by decide +kernel)⟩
theorem lw_p62 : lw_okq (⟨"BlockedCarsModel", "knownHere", "()I"⟩, 53) := ⟨⟨by decide +kernel, by decide +kernel⟩, List.mem_of_getElem? (i := 1279) (by decide +kernel), List.mem_of_getElem? (i := 1560) (by decide +kernel), List.mem_of_getElem? (i := 1561) (by decide +kernel)⟩
theorem lw_p63 : lw_okq (⟨"BlockedCarsModel", "takes", "(IIIIII)Z"⟩, 53) := ⟨⟨by decide +kernel, by decide +kernel⟩, List.mem_of_getElem? (i := 1279) (by decide +kernel), List.mem_of_getElem? (i := 1564) (by decide +kernel), List.mem_of_getElem? (i := 1565) (by decide +kernel)⟩
def lw_privs_4 : List (MethodName × Nat) := [(⟨"BlockedCarsModel", "clause", "()V"⟩, 53), (⟨"BlockedCarsModel", "kindHere", "()I"⟩, 53), (⟨"BlockedCarsModel", "isWord", "(IIIIII)Z"⟩, 53), (⟨"BlockedCarsModel", "wordHere", "()I"⟩, 53), (⟨"BlockedCarsModel", "wrong", "(II)V"⟩, 53), (⟨"BlockedCarsModel", "skipWord", "()V"⟩, 53), (⟨"BlockedCarsModel", "number", "(II)I"⟩, 53), (⟨"BlockedCarsModel", "sign", "(I)V"⟩, 53), (⟨"BlockedCarsModel", "ends", "()I"⟩, 53), (⟨"BlockedCarsModel", "sum", "()V"⟩, 53), (⟨"BlockedCarsModel", "product", "()V"⟩, 53), (⟨"BlockedCarsModel", "one", "()V"⟩, 53), (⟨"BlockedCarsModel", "opensOne", "()Z"⟩, 53), (⟨"BlockedCarsModel", "notes", "(II)V"⟩, 53), (⟨"BlockedCarsModel", "knownHere", "()I"⟩, 53), (⟨"BlockedCarsModel", "takes", "(IIIIII)Z"⟩, 53)]
theorem lw_r4 : ∀ q ∈ lw_privs_4, lw_okq q := List.forall_mem_cons.mpr ⟨lw_p48, List.forall_mem_cons.mpr ⟨lw_p49, List.forall_mem_cons.mpr ⟨lw_p50, List.forall_mem_cons.mpr ⟨lw_p51, List.forall_mem_cons.mpr ⟨lw_p52, List.forall_mem_cons.mpr ⟨lw_p53, List.forall_mem_cons.mpr ⟨lw_p54, List.forall_mem_cons.mpr ⟨lw_p55, List.forall_mem_cons.mpr ⟨lw_p56, List.forall_mem_cons.mpr ⟨lw_p57, List.forall_mem_cons.mpr ⟨lw_p58, List.forall_mem_cons.mpr ⟨lw_p59, List.forall_mem_cons.mpr ⟨lw_p60, List.forall_mem_cons.mpr ⟨lw_p61, List.forall_mem_cons.mpr ⟨lw_p62, List.forall_mem_cons.mpr ⟨lw_p63, fun _ h => absurd h List.not_mem_nil⟩⟩⟩⟩⟩⟩⟩⟩⟩⟩⟩⟩⟩⟩⟩⟩
theorem lw_p64 : lw_okq (⟨"BlockedCarsModel", "takesSign", "(I)Z"⟩, 53) := ⟨⟨by decide +kernel, by decide +kernel⟩, List.mem_of_getElem? (i := 1279) (by decide +kernel), List.mem_of_getElem? (i := 1568) (by decide +kernel), List.mem_of_getElem? (i := 1569) (by decide +kernel)⟩
theorem lw_p65 : lw_okq (⟨"BlockedCarsModel", "readsStep", "()V"⟩, 53) := ⟨⟨by decide +kernel, by decide +kernel⟩, List.mem_of_getElem? (i := 1279) (by decide +kernel), List.mem_of_getElem? (i := 1587) (by decide +kernel), List.mem_of_getElem? (i := 1588) (by decide +kernel)⟩
theorem lw_p66 : lw_okq (⟨"BlockedCarsModel", "stepHere", "()I"⟩, 53) := ⟨⟨by decide +kernel, by decide +kernel⟩, List.mem_of_getElem? (i := 1279) (by decide +kernel), List.mem_of_getElem? (i := 1591) (by decide +kernel), List.mem_of_getElem? (i := 1592) (by decide +kernel)⟩
theorem lw_p67 : lw_okq (⟨"BlockedCarsModel", "goesOn", "(II)V"⟩, 53) := ⟨⟨by decide +kernel, by decide +kernel⟩, List.mem_of_getElem? (i := 1279) (by decide +kernel), List.mem_of_getElem? (i := 1598) (by decide +kernel), List.mem_of_getElem? (i := 1599) (by decide +kernel)⟩
theorem lw_p68 : lw_okq (⟨"BlockedCarsModel", "does", "([I[I)Z"⟩, 53) := ⟨⟨by decide +kernel, by decide +kernel⟩, List.mem_of_getElem? (i := 1279) (by decide +kernel), List.mem_of_getElem? (i := 1602) (by decide +kernel), List.mem_of_getElem? (i := 1603) (by decide +kernel)⟩
theorem lw_p69 : lw_okq (⟨"BlockedCarsModel", "laneOf", "([II)I"⟩, 53) := ⟨⟨by decide +kernel, by decide +kernel⟩, List.mem_of_getElem? (i := 1279) (by decide +kernel), List.mem_of_getElem? (i := 1606) (by decide +kernel), List.mem_of_getElem? (i := 1607) (by decide +kernel)⟩
theorem lw_p70 : lw_okq (⟨"BlockedCarsModel", "roomOf", "([II)I"⟩, 53) := ⟨⟨by decide +kernel, by decide +kernel⟩, List.mem_of_getElem? (i := 1279) (by decide +kernel), List.mem_of_getElem? (i := 1613) (by decide +kernel), List.mem_of_getElem? (i := 1614) (by decide +kernel)⟩
theorem lw_p71 : lw_okq (⟨"BlockedCarsModel", "comesTo", "([III)V"⟩, 53) := ⟨⟨by decide +kernel, by decide +kernel⟩, List.mem_of_getElem? (i := 1279) (by decide +kernel), List.mem_of_getElem? (i := 1617) (by decide +kernel), List.mem_of_getElem? (i := 1618) (by decide +kernel)⟩
theorem lw_p72 : lw_okq (⟨"BlockedCarsModel", "moves", "([IIII)Z"⟩, 53) := ⟨⟨by decide +kernel, by decide +kernel⟩, List.mem_of_getElem? (i := 1279) (by decide +kernel), List.mem_of_getElem? (i := 1621) (by decide +kernel), List.mem_of_getElem? (i := 1622) (by decide +kernel)⟩
theorem lw_p73 : lw_okq (⟨"BlockedCarsModel", "secondsOf", "([III)I"⟩, 53) := ⟨⟨by decide +kernel, by decide +kernel⟩, List.mem_of_getElem? (i := 1279) (by decide +kernel), List.mem_of_getElem? (i := 1628) (by decide +kernel), List.mem_of_getElem? (i := 1629) (by decide +kernel)⟩
theorem lw_p74 : lw_okq (⟨"BlockedCarsModel", "byLaw", "()I"⟩, 53) := ⟨⟨by decide +kernel, by decide +kernel⟩, List.mem_of_getElem? (i := 1279) (by decide +kernel), List.mem_of_getElem? (i := 1632) (by decide +kernel), List.mem_of_getElem? (i := 1633) (by decide +kernel)⟩
theorem lw_p75 : lw_okq (⟨"BlockedCarsModel", "swaps", "([I)Z"⟩, 53) := ⟨⟨by decide +kernel, by decide +kernel⟩, List.mem_of_getElem? (i := 1279) (by decide +kernel), List.mem_of_getElem? (i := 1645) (by decide +kernel), List.mem_of_getElem? (i := 1646) (by decide +kernel)⟩
theorem lw_p76 : lw_okq (⟨"BlockedCarsModel", "latestOut", "([II)I"⟩, 53) := ⟨⟨by decide +kernel, by decide +kernel⟩, List.mem_of_getElem? (i := 1279) (by decide +kernel), List.mem_of_getElem? (i := 1649) (by decide +kernel), List.mem_of_getElem? (i := 1650) (by decide +kernel)⟩
theorem lw_p77 : lw_okq (⟨"BlockedCarsModel", "insideOf", "([I)I"⟩, 53) := ⟨⟨by decide +kernel, by decide +kernel⟩, List.mem_of_getElem? (i := 1279) (by decide +kernel), List.mem_of_getElem? (i := 1653) (by decide +kernel), List.mem_of_getElem? (i := 1654) (by decide +kernel)⟩
theorem lw_p78 : lw_okq (⟨"BlockedCarsModel", "roomiest", "([I)I"⟩, 53) := ⟨⟨by decide +kernel, by decide +kernel⟩, List.mem_of_getElem? (i := 1279) (by decide +kernel), List.mem_of_getElem? (i := 1657) (by decide +kernel), List.mem_of_getElem? (i := 1658) (by decide +kernel)⟩
theorem lw_p79 : lw_okq (⟨"BlockedCarsModel", "pairsIn", "([I)I"⟩, 53) := ⟨⟨by decide +kernel, by decide +kernel⟩, List.mem_of_getElem? (i := 1279) (by decide +kernel), List.mem_of_getElem? (i := 1669) (by decide +kernel), List.mem_of_getElem? (i := 1670) (by decide +kernel)⟩
def lw_privs_5 : List (MethodName × Nat) := [(⟨"BlockedCarsModel", "takesSign", "(I)Z"⟩, 53), (⟨"BlockedCarsModel", "readsStep", "()V"⟩, 53), (⟨"BlockedCarsModel", "stepHere", "()I"⟩, 53), (⟨"BlockedCarsModel", "goesOn", "(II)V"⟩, 53), (⟨"BlockedCarsModel", "does", "([I[I)Z"⟩, 53), (⟨"BlockedCarsModel", "laneOf", "([II)I"⟩, 53), (⟨"BlockedCarsModel", "roomOf", "([II)I"⟩, 53), (⟨"BlockedCarsModel", "comesTo", "([III)V"⟩, 53), (⟨"BlockedCarsModel", "moves", "([IIII)Z"⟩, 53), (⟨"BlockedCarsModel", "secondsOf", "([III)I"⟩, 53), (⟨"BlockedCarsModel", "byLaw", "()I"⟩, 53), (⟨"BlockedCarsModel", "swaps", "([I)Z"⟩, 53), (⟨"BlockedCarsModel", "latestOut", "([II)I"⟩, 53), (⟨"BlockedCarsModel", "insideOf", "([I)I"⟩, 53), (⟨"BlockedCarsModel", "roomiest", "([I)I"⟩, 53), (⟨"BlockedCarsModel", "pairsIn", "([I)I"⟩, 53)]
theorem lw_r5 : ∀ q ∈ lw_privs_5, lw_okq q := List.forall_mem_cons.mpr ⟨lw_p64, List.forall_mem_cons.mpr ⟨lw_p65, List.forall_mem_cons.mpr ⟨lw_p66, List.forall_mem_cons.mpr ⟨lw_p67, List.forall_mem_cons.mpr ⟨lw_p68, List.forall_mem_cons.mpr ⟨lw_p69, List.forall_mem_cons.mpr ⟨lw_p70, List.forall_mem_cons.mpr ⟨lw_p71, List.forall_mem_cons.mpr ⟨lw_p72, List.forall_mem_cons.mpr ⟨lw_p73, List.forall_mem_cons.mpr ⟨lw_p74, List.forall_mem_cons.mpr ⟨lw_p75, List.forall_mem_cons.mpr ⟨lw_p76, List.forall_mem_cons.mpr ⟨lw_p77, List.forall_mem_cons.mpr ⟨lw_p78, List.forall_mem_cons.mpr ⟨lw_p79, fun _ h => absurd h List.not_mem_nil⟩⟩⟩⟩⟩⟩⟩⟩⟩⟩⟩⟩⟩⟩⟩⟩
theorem lw_p80 : lw_okq (⟨"BlockedCarsModel", "isLater", "(II)Z"⟩, 53) := ⟨⟨by decide +kernel, by decide +kernel⟩, List.mem_of_getElem? (i := 1279) (by decide +kernel), List.mem_of_getElem? (i := 1673) (by decide +kernel), List.mem_of_getElem? (i := 1674) (by decide +kernel)⟩
theorem lw_p81 : lw_okq (⟨"BlockedCarsModel", "isLane", "(I)Z"⟩, 53) := ⟨⟨by decide +kernel, by decide +kernel⟩, List.mem_of_getElem? (i := 1279) (by decide +kernel), List.mem_of_getElem? (i := 1681) (by decide +kernel), List.mem_of_getElem? (i := 1682) (by decide +kernel)⟩
theorem lw_p82 : lw_okq (⟨"BlockedCarsModel", "isCar", "(I)Z"⟩, 53) := ⟨⟨by decide +kernel, by decide +kernel⟩, List.mem_of_getElem? (i := 1279) (by decide +kernel), List.mem_of_getElem? (i := 1689) (by decide +kernel), List.mem_of_getElem? (i := 1690) (by decide +kernel)⟩
theorem lw_p83 : lw_okq (⟨"BlockedCarsModel", "firstPlace", "(I)I"⟩, 53) := ⟨⟨by decide +kernel, by decide +kernel⟩, List.mem_of_getElem? (i := 1279) (by decide +kernel), List.mem_of_getElem? (i := 1693) (by decide +kernel), List.mem_of_getElem? (i := 1694) (by decide +kernel)⟩
theorem lw_p84 : lw_okq (⟨"BlockedCarsModel", "rankOf", "([II)I"⟩, 53) := ⟨⟨by decide +kernel, by decide +kernel⟩, List.mem_of_getElem? (i := 1279) (by decide +kernel), List.mem_of_getElem? (i := 1697) (by decide +kernel), List.mem_of_getElem? (i := 1698) (by decide +kernel)⟩
theorem lw_p85 : lw_okq (⟨"BlockedCarsModel", "onPlace", "(II)I"⟩, 53) := ⟨⟨by decide +kernel, by decide +kernel⟩, List.mem_of_getElem? (i := 1279) (by decide +kernel), List.mem_of_getElem? (i := 1705) (by decide +kernel), List.mem_of_getElem? (i := 1706) (by decide +kernel)⟩
theorem lw_p86 : lw_okq (⟨"BlockedCarsModel", "aheadOf", "(I)I"⟩, 53) := ⟨⟨by decide +kernel, by decide +kernel⟩, List.mem_of_getElem? (i := 1279) (by decide +kernel), List.mem_of_getElem? (i := 1721) (by decide +kernel), List.mem_of_getElem? (i := 1722) (by decide +kernel)⟩
theorem lw_p87 : lw_okq (⟨"BlockedCarsModel", "fewest", "([II)I"⟩, 53) := ⟨⟨by decide +kernel, by decide +kernel⟩, List.mem_of_getElem? (i := 1279) (by decide +kernel), List.mem_of_getElem? (i := 1729) (by decide +kernel), List.mem_of_getElem? (i := 1730) (by decide +kernel)⟩
theorem lw_p88 : lw_okq (⟨"BlockedCarsModel", "leaveAll", "([I)V"⟩, 53) := ⟨⟨by decide +kernel, by decide +kernel⟩, List.mem_of_getElem? (i := 1279) (by decide +kernel), List.mem_of_getElem? (i := 1733) (by decide +kernel), List.mem_of_getElem? (i := 1734) (by decide +kernel)⟩
theorem lw_p89 : lw_okq (⟨"BlockedCarsModel", "earliest", "([I)I"⟩, 53) := ⟨⟨by decide +kernel, by decide +kernel⟩, List.mem_of_getElem? (i := 1279) (by decide +kernel), List.mem_of_getElem? (i := 1737) (by decide +kernel), List.mem_of_getElem? (i := 1738) (by decide +kernel)⟩
theorem lw_p90 : lw_okq (⟨"BlockedCarsModel", "asNumber", "([I)I"⟩, 53) := ⟨⟨by decide +kernel, by decide +kernel⟩, List.mem_of_getElem? (i := 1279) (by decide +kernel), List.mem_of_getElem? (i := 1741) (by decide +kernel), List.mem_of_getElem? (i := 1742) (by decide +kernel)⟩
theorem lw_p91 : lw_okq (⟨"BlockedCarsModel", "placeOf", "(I)I"⟩, 53) := ⟨⟨by decide +kernel, by decide +kernel⟩, List.mem_of_getElem? (i := 1279) (by decide +kernel), List.mem_of_getElem? (i := 1745) (by decide +kernel), List.mem_of_getElem? (i := 1746) (by decide +kernel)⟩
theorem lw_p92 : lw_okq (⟨"BlockedCarsModel", "asRow", "(I[I)V"⟩, 53) := ⟨⟨by decide +kernel, by decide +kernel⟩, List.mem_of_getElem? (i := 1279) (by decide +kernel), List.mem_of_getElem? (i := 1749) (by decide +kernel), List.mem_of_getElem? (i := 1750) (by decide +kernel)⟩
theorem lw_p93 : lw_okq (⟨"BlockedCarsModel", "isGoal", "([II)Z"⟩, 53) := ⟨⟨by decide +kernel, by decide +kernel⟩, List.mem_of_getElem? (i := 1279) (by decide +kernel), List.mem_of_getElem? (i := 1753) (by decide +kernel), List.mem_of_getElem? (i := 1754) (by decide +kernel)⟩
theorem lw_p94 : lw_okq (⟨"BlockedCarsModel", "takesOut", "([II)V"⟩, 53) := ⟨⟨by decide +kernel, by decide +kernel⟩, List.mem_of_getElem? (i := 1279) (by decide +kernel), List.mem_of_getElem? (i := 1765) (by decide +kernel), List.mem_of_getElem? (i := 1766) (by decide +kernel)⟩
theorem lw_p95 : lw_okq (⟨"BlockedCarsModel", "areCars", "(I)Z"⟩, 53) := ⟨⟨by decide +kernel, by decide +kernel⟩, List.mem_of_getElem? (i := 1279) (by decide +kernel), List.mem_of_getElem? (i := 1781) (by decide +kernel), List.mem_of_getElem? (i := 1782) (by decide +kernel)⟩
def lw_privs_6 : List (MethodName × Nat) := [(⟨"BlockedCarsModel", "isLater", "(II)Z"⟩, 53), (⟨"BlockedCarsModel", "isLane", "(I)Z"⟩, 53), (⟨"BlockedCarsModel", "isCar", "(I)Z"⟩, 53), (⟨"BlockedCarsModel", "firstPlace", "(I)I"⟩, 53), (⟨"BlockedCarsModel", "rankOf", "([II)I"⟩, 53), (⟨"BlockedCarsModel", "onPlace", "(II)I"⟩, 53), (⟨"BlockedCarsModel", "aheadOf", "(I)I"⟩, 53), (⟨"BlockedCarsModel", "fewest", "([II)I"⟩, 53), (⟨"BlockedCarsModel", "leaveAll", "([I)V"⟩, 53), (⟨"BlockedCarsModel", "earliest", "([I)I"⟩, 53), (⟨"BlockedCarsModel", "asNumber", "([I)I"⟩, 53), (⟨"BlockedCarsModel", "placeOf", "(I)I"⟩, 53), (⟨"BlockedCarsModel", "asRow", "(I[I)V"⟩, 53), (⟨"BlockedCarsModel", "isGoal", "([II)Z"⟩, 53), (⟨"BlockedCarsModel", "takesOut", "([II)V"⟩, 53), (⟨"BlockedCarsModel", "areCars", "(I)Z"⟩, 53)]
theorem lw_r6 : ∀ q ∈ lw_privs_6, lw_okq q := List.forall_mem_cons.mpr ⟨lw_p80, List.forall_mem_cons.mpr ⟨lw_p81, List.forall_mem_cons.mpr ⟨lw_p82, List.forall_mem_cons.mpr ⟨lw_p83, List.forall_mem_cons.mpr ⟨lw_p84, List.forall_mem_cons.mpr ⟨lw_p85, List.forall_mem_cons.mpr ⟨lw_p86, List.forall_mem_cons.mpr ⟨lw_p87, List.forall_mem_cons.mpr ⟨lw_p88, List.forall_mem_cons.mpr ⟨lw_p89, List.forall_mem_cons.mpr ⟨lw_p90, List.forall_mem_cons.mpr ⟨lw_p91, List.forall_mem_cons.mpr ⟨lw_p92, List.forall_mem_cons.mpr ⟨lw_p93, List.forall_mem_cons.mpr ⟨lw_p94, List.forall_mem_cons.mpr ⟨lw_p95, fun _ h => absurd h List.not_mem_nil⟩⟩⟩⟩⟩⟩⟩⟩⟩⟩⟩⟩⟩⟩⟩⟩
theorem lw_p96 : lw_okq (⟨"BlockedCarsModel", "comeHome", "([IIII)V"⟩, 53) := ⟨⟨by decide +kernel, by decide +kernel⟩, List.mem_of_getElem? (i := 1279) (by decide +kernel), List.mem_of_getElem? (i := 1785) (by decide +kernel), List.mem_of_getElem? (i := 1786) (by decide +kernel)⟩
theorem lw_p97 : lw_okq (⟨"BlockedCarsModel", "isLeak", "(I)Z"⟩, 53) := ⟨⟨by decide +kernel, by decide +kernel⟩, List.mem_of_getElem? (i := 1279) (by decide +kernel), List.mem_of_getElem? (i := 1797) (by decide +kernel), List.mem_of_getElem? (i := 1798) (by decide +kernel)⟩
theorem lw_p98 : lw_okq (⟨"BlockedCarsModel", "isOil", "(III)Z"⟩, 53) := ⟨⟨by decide +kernel, by decide +kernel⟩, List.mem_of_getElem? (i := 1279) (by decide +kernel), List.mem_of_getElem? (i := 1801) (by decide +kernel), List.mem_of_getElem? (i := 1802) (by decide +kernel)⟩
theorem lw_p99 : lw_okq (⟨"BlockedCarsModel", "isTold", "(II)Z"⟩, 53) := ⟨⟨by decide +kernel, by decide +kernel⟩, List.mem_of_getElem? (i := 1279) (by decide +kernel), List.mem_of_getElem? (i := 1809) (by decide +kernel), List.mem_of_getElem? (i := 1810) (by decide +kernel)⟩
theorem lw_p100 : lw_okq (⟨"BlockedCarsModel", "givenBy", "(II)I"⟩, 53) := ⟨⟨by decide +kernel, by decide +kernel⟩, List.mem_of_getElem? (i := 1279) (by decide +kernel), List.mem_of_getElem? (i := 1827) (by decide +kernel), List.mem_of_getElem? (i := 1828) (by decide +kernel)⟩
theorem lw_p101 : lw_okq (⟨"BlockedCarsModel", "daysBy", "(III)V"⟩, 53) := ⟨⟨by decide +kernel, by decide +kernel⟩, List.mem_of_getElem? (i := 1279) (by decide +kernel), List.mem_of_getElem? (i := 1846) (by decide +kernel), List.mem_of_getElem? (i := 1847) (by decide +kernel)⟩
theorem lw_p102 : lw_okq (⟨"BlockedCarsModel", "draw", "(I)I"⟩, 53) := ⟨⟨by decide +kernel, by decide +kernel⟩, List.mem_of_getElem? (i := 1279) (by decide +kernel), List.mem_of_getElem? (i := 1850) (by decide +kernel), List.mem_of_getElem? (i := 1851) (by decide +kernel)⟩
theorem lw_p103 : lw_okq (⟨"BlockedCarsModel", "putsAll", "([IZ)V"⟩, 53) := ⟨⟨by decide +kernel, by decide +kernel⟩, List.mem_of_getElem? (i := 1279) (by decide +kernel), List.mem_of_getElem? (i := 1863) (by decide +kernel), List.mem_of_getElem? (i := 1864) (by decide +kernel)⟩
theorem lw_p104 : lw_okq (⟨"BlockedCarsModel", "puts", "([IIZ)I"⟩, 53) := ⟨⟨by decide +kernel, by decide +kernel⟩, List.mem_of_getElem? (i := 1279) (by decide +kernel), List.mem_of_getElem? (i := 1867) (by decide +kernel), List.mem_of_getElem? (i := 1868) (by decide +kernel)⟩
def lw_privs_7 : List (MethodName × Nat) := [(⟨"BlockedCarsModel", "comeHome", "([IIII)V"⟩, 53), (⟨"BlockedCarsModel", "isLeak", "(I)Z"⟩, 53), (⟨"BlockedCarsModel", "isOil", "(III)Z"⟩, 53), (⟨"BlockedCarsModel", "isTold", "(II)Z"⟩, 53), (⟨"BlockedCarsModel", "givenBy", "(II)I"⟩, 53), (⟨"BlockedCarsModel", "daysBy", "(III)V"⟩, 53), (⟨"BlockedCarsModel", "draw", "(I)I"⟩, 53), (⟨"BlockedCarsModel", "putsAll", "([IZ)V"⟩, 53), (⟨"BlockedCarsModel", "puts", "([IIZ)I"⟩, 53)]
theorem lw_r7 : ∀ q ∈ lw_privs_7, lw_okq q := List.forall_mem_cons.mpr ⟨lw_p96, List.forall_mem_cons.mpr ⟨lw_p97, List.forall_mem_cons.mpr ⟨lw_p98, List.forall_mem_cons.mpr ⟨lw_p99, List.forall_mem_cons.mpr ⟨lw_p100, List.forall_mem_cons.mpr ⟨lw_p101, List.forall_mem_cons.mpr ⟨lw_p102, List.forall_mem_cons.mpr ⟨lw_p103, List.forall_mem_cons.mpr ⟨lw_p104, fun _ h => absurd h List.not_mem_nil⟩⟩⟩⟩⟩⟩⟩⟩⟩
def lw_privs : List (MethodName × Nat) := lw_privs_1 ++ (lw_privs_2 ++ (lw_privs_3 ++ (lw_privs_4 ++ (lw_privs_5 ++ (lw_privs_6 ++ (lw_privs_7))))))
def lw_tbl : List Cond := k2_sels lw_privs ++ tables_1
theorem lw_privs_ok : ∀ q ∈ lw_privs, lw_okq q := by
  show ∀ q ∈ lw_privs_1 ++ (lw_privs_2 ++ (lw_privs_3 ++ (lw_privs_4 ++ (lw_privs_5 ++ (lw_privs_6 ++ (lw_privs_7)))))), lw_okq q
  exact List.forall_mem_append.mpr ⟨lw_r1, List.forall_mem_append.mpr ⟨lw_r2, List.forall_mem_append.mpr ⟨lw_r3, List.forall_mem_append.mpr ⟨lw_r4, List.forall_mem_append.mpr ⟨lw_r5, List.forall_mem_append.mpr ⟨lw_r6, lw_r7⟩⟩⟩⟩⟩⟩
/-! ===== BEGIN words of one list among another's, by their places ===== -/
theorem goodIn_r {big : List Cond} (ws : List Cond) (ps : List Nat) (hp : ws = ps.filterMap (fun i => big[i]?)) (h : ws.all goodWord = true) : GoodIn big ws := by
  intro w hw
  have h1 := List.all_eq_true.mp h w hw
  rw [hp] at hw
  obtain ⟨i, -, hi⟩ := List.mem_filterMap.mp hw
  have hm : w ∈ big := by first | exact List.mem_of_getElem? hi | exact List.getElem?_mem hi
  exact ⟨hm, good_of_word h1⟩
theorem goodIn_app {big a b : List Cond} (ha : GoodIn big a) (hb : GoodIn big b) : GoodIn big (a ++ b) := fun w h => (List.mem_append.mp h).elim (ha w) (hb w)
theorem goodIn_ca {big a b : List Cond} {c : Cond} (ha : GoodIn big (c :: a)) (hb : GoodIn big b) : GoodIn big (c :: (a ++ b)) := fun w h => (List.mem_cons.mp h).elim (fun e => ha w (List.mem_cons.mpr (Or.inl e))) (fun h => (List.mem_append.mp h).elim (fun h => ha w (List.mem_cons.mpr (Or.inr h))) (hb w))
theorem goodIn_sub {big ws : List Cond} (hm : ∀ w ∈ ws, w ∈ big) (h : ws.all goodWord = true) : GoodIn big ws := fun w hw => ⟨hm w hw, good_of_word (List.all_eq_true.mp h w hw)⟩
/-! ===== END ===== -/

/-! ===== BEGIN printed: names, fields, word lists, decode rows ===== -/
def RX0 : String := "BlockedCars$Days"
def TX0 : u_T := fun k => match k with
  | 0 => ("BlockedCars$Days", "seed", "I", false)
  | 1 => ("BlockedCars$Days", "stand", "J", false)
  | 2 => ("BlockedCars$Days", "left", "I", false)
  | _ => ("BlockedCars$Days", "ill", "I", false)
def tyX0 : Nat → FieldType := fun k => match k with
  | 0 => .int
  | 1 => .long
  | 2 => .int
  | _ => .int
abbrev wsX00 : List Cond := u_ws RX0 TX0 4
theorem nmX0 : ∀ a, a < 4 → ∀ b, b < 4 → a ≠ b → (TX0 a).2.1 ≠ (TX0 b).2.1 := by decide +kernel
theorem tyX0_ok : ∀ k, k < 4 → parseFieldDescriptor (TX0 k).2.2.1 = some (tyX0 k) := by decide +kernel
abbrev cX0_init : ByteArray := prog_2_method_1_code
def yX0_init : MethodName := ⟨RX0, "<init>", "()V"⟩
abbrev cX0_run : ByteArray := prog_2_method_2_code
def yX0_run : MethodName := ⟨RX0, "run", "(LBlockedCars$Yard;JIII)V"⟩
abbrev cX0_drawIll : ByteArray := prog_2_method_3_code
def yX0_drawIll : MethodName := ⟨RX0, "drawIll", "(LBlockedCars$Yard;I)I"⟩
abbrev cX0_draw : ByteArray := prog_2_method_4_code
def yX0_draw : MethodName := ⟨RX0, "draw", "(I)I"⟩
abbrev cX0_letLaneOut : ByteArray := prog_2_method_5_code
def yX0_letLaneOut : MethodName := ⟨RX0, "letLaneOut", "(II)V"⟩
def RX1 : String := "BlockedCars$Law"
def TX1 : u_T := fun k => match k with
  | 0 => ("BlockedCars$Law", "code", "[I", true)
  | 1 => ("BlockedCars$Law", "values", "[I", true)
  | 2 => ("BlockedCars$Law", "facts", "[I", true)
  | _ => ("BlockedCars$Law", "size", "I", false)
def tyX1 : Nat → FieldType := fun k => match k with
  | 0 => .array .int
  | 1 => .array .int
  | 2 => .array .int
  | _ => .int
abbrev wsX10 : List Cond := u_ws RX1 TX1 4
theorem nmX1 : ∀ a, a < 4 → ∀ b, b < 4 → a ≠ b → (TX1 a).2.1 ≠ (TX1 b).2.1 := by decide +kernel
theorem tyX1_ok : ∀ k, k < 4 → parseFieldDescriptor (TX1 k).2.2.1 = some (tyX1 k) := by decide +kernel
abbrev cX1_init : ByteArray := prog_3_method_1_code
def yX1_init : MethodName := ⟨RX1, "<init>", "()V"⟩
abbrev cX1_clear : ByteArray := prog_3_method_2_code
def yX1_clear : MethodName := ⟨RX1, "clear", "()V"⟩
abbrev cX1_writeDefault : ByteArray := prog_3_method_3_code
def yX1_writeDefault : MethodName := ⟨RX1, "writeDefault", "()V"⟩
abbrev cX1_write : ByteArray := prog_3_method_4_code
def yX1_write : MethodName := ⟨RX1, "write", "(I)V"⟩
abbrev cX1_read : ByteArray := prog_3_method_5_code
def yX1_read : MethodName := ⟨RX1, "read", "(LBlockedCars$Reader;)V"⟩
abbrev cX1_readSum : ByteArray := prog_3_method_6_code
def yX1_readSum : MethodName := ⟨RX1, "readSum", "(LBlockedCars$Reader;I)V"⟩
abbrev cX1_readProduct : ByteArray := prog_3_method_7_code
def yX1_readProduct : MethodName := ⟨RX1, "readProduct", "(LBlockedCars$Reader;I)V"⟩
abbrev cX1_readUnit : ByteArray := prog_3_method_8_code
def yX1_readUnit : MethodName := ⟨RX1, "readUnit", "(LBlockedCars$Reader;I)V"⟩
abbrev cX1_readBracket : ByteArray := prog_3_method_9_code
def yX1_readBracket : MethodName := ⟨RX1, "readBracket", "(LBlockedCars$Reader;I)V"⟩
abbrev cX1_readTwo : ByteArray := prog_3_method_10_code
def yX1_readTwo : MethodName := ⟨RX1, "readTwo", "(LBlockedCars$Reader;II)V"⟩
abbrev cX1_factOf : ByteArray := prog_3_method_11_code
def yX1_factOf : MethodName := ⟨RX1, "factOf", "(LBlockedCars$Reader;)I"⟩
abbrev cX1_tellCar : ByteArray := prog_3_method_12_code
def yX1_tellCar : MethodName := ⟨RX1, "tellCar", "(IIII)V"⟩
abbrev cX1_tellMove : ByteArray := prog_3_method_13_code
def yX1_tellMove : MethodName := ⟨RX1, "tellMove", "(IIII)V"⟩
abbrev cX1_secondsNow : ByteArray := prog_3_method_14_code
def yX1_secondsNow : MethodName := ⟨RX1, "secondsNow", "(LBlockedCars$Yard;LBlockedCars$Position;II)I"⟩
abbrev cX1_secondsTold : ByteArray := prog_3_method_15_code
def yX1_secondsTold : MethodName := ⟨RX1, "secondsTold", "()I"⟩
abbrev cX1_reckon : ByteArray := prog_3_method_16_code
def yX1_reckon : MethodName := ⟨RX1, "reckon", "(III)I"⟩
def RX2 : String := "BlockedCars$Past"
def TX2 : u_T := fun k => match k with
  | 0 => ("BlockedCars$Past", "rows", "[LBlockedCars$Position;", true)
  | _ => ("BlockedCars$Past", "works", "I", false)
def tyX2 : Nat → FieldType := fun k => match k with
  | 0 => .array (.object "BlockedCars$Position")
  | _ => .int
abbrev wsX20 : List Cond := u_ws RX2 TX2 2
theorem nmX2 : ∀ a, a < 2 → ∀ b, b < 2 → a ≠ b → (TX2 a).2.1 ≠ (TX2 b).2.1 := by decide +kernel
theorem tyX2_ok : ∀ k, k < 2 → parseFieldDescriptor (TX2 k).2.2.1 = some (tyX2 k) := by decide +kernel
abbrev cX2_init : ByteArray := prog_4_method_1_code
def yX2_init : MethodName := ⟨RX2, "<init>", "()V"⟩
abbrev cX2_latest : ByteArray := prog_4_method_2_code
def yX2_latest : MethodName := ⟨RX2, "latest", "()LBlockedCars$Position;"⟩
abbrev cX2_begin : ByteArray := prog_4_method_3_code
def yX2_begin : MethodName := ⟨RX2, "begin", "()V"⟩
abbrev cX2_become : ByteArray := prog_4_method_4_code
def yX2_become : MethodName := ⟨RX2, "become", "(LBlockedCars$Past;)V"⟩
def RX3 : String := "BlockedCars$Position"
def TX3 : u_T := fun k => match k with
  | 0 => ("BlockedCars$Position", "stand", "J", false)
  | 1 => ("BlockedCars$Position", "spent", "I", false)
  | _ => ("BlockedCars$Position", "moves", "[I", true)
def tyX3 : Nat → FieldType := fun k => match k with
  | 0 => .long
  | 1 => .int
  | _ => .array .int
abbrev wsX30 : List Cond := u_ws RX3 TX3 3
theorem nmX3 : ∀ a, a < 3 → ∀ b, b < 3 → a ≠ b → (TX3 a).2.1 ≠ (TX3 b).2.1 := by decide +kernel
theorem tyX3_ok : ∀ k, k < 3 → parseFieldDescriptor (TX3 k).2.2.1 = some (tyX3 k) := by decide +kernel
abbrev cX3_init : ByteArray := prog_5_method_1_code
def yX3_init : MethodName := ⟨RX3, "<init>", "()V"⟩
abbrev cX3_become : ByteArray := prog_5_method_2_code
def yX3_become : MethodName := ⟨RX3, "become", "(LBlockedCars$Position;)V"⟩
abbrev cX3_standsAs : ByteArray := prog_5_method_3_code
def yX3_standsAs : MethodName := ⟨RX3, "standsAs", "(J)Z"⟩
abbrev cX3_addMove : ByteArray := prog_5_method_4_code
def yX3_addMove : MethodName := ⟨RX3, "addMove", "(I)V"⟩
abbrev cX3_movesOf : ByteArray := prog_5_method_5_code
def yX3_movesOf : MethodName := ⟨RX3, "movesOf", "(I)I"⟩
abbrev cX3_allMoves : ByteArray := prog_5_method_6_code
def yX3_allMoves : MethodName := ⟨RX3, "allMoves", "()I"⟩
abbrev cX3_levelled : ByteArray := prog_5_method_7_code
def yX3_levelled : MethodName := ⟨RX3, "levelled", "(II)I"⟩
def RX4 : String := "BlockedCars$Reader"
def TX4 : u_T := fun k => match k with
  | 0 => ("BlockedCars$Reader", "tape", "[B", true)
  | 1 => ("BlockedCars$Reader", "held", "I", false)
  | 2 => ("BlockedCars$Reader", "end", "I", false)
  | 3 => ("BlockedCars$Reader", "at", "I", false)
  | 4 => ("BlockedCars$Reader", "wordFrom", "I", false)
  | 5 => ("BlockedCars$Reader", "fault", "I", false)
  | _ => ("BlockedCars$Reader", "faultAt", "I", false)
def tyX4 : Nat → FieldType := fun k => match k with
  | 0 => .array .byte
  | 1 => .int
  | 2 => .int
  | 3 => .int
  | 4 => .int
  | 5 => .int
  | _ => .int
abbrev wsX40 : List Cond := u_ws RX4 TX4 7
theorem nmX4 : ∀ a, a < 7 → ∀ b, b < 7 → a ≠ b → (TX4 a).2.1 ≠ (TX4 b).2.1 := by decide +kernel
theorem tyX4_ok : ∀ k, k < 7 → parseFieldDescriptor (TX4 k).2.2.1 = some (tyX4 k) := by decide +kernel
abbrev cX4_init : ByteArray := prog_6_method_1_code
def yX4_init : MethodName := ⟨RX4, "<init>", "()V"⟩
abbrev cX4_take : ByteArray := prog_6_method_2_code
def yX4_take : MethodName := ⟨RX4, "take", "(I)V"⟩
abbrev cX4_open : ByteArray := prog_6_method_3_code
def yX4_open : MethodName := ⟨RX4, "open", "(I)V"⟩
abbrev cX4_isSound : ByteArray := prog_6_method_4_code
def yX4_isSound : MethodName := ⟨RX4, "isSound", "()Z"⟩
abbrev cX4_fail : ByteArray := prog_6_method_5_code
def yX4_fail : MethodName := ⟨RX4, "fail", "(II)V"⟩
abbrev cX4_here : ByteArray := prog_6_method_6_code
def yX4_here : MethodName := ⟨RX4, "here", "()I"⟩
abbrev cX4_skipBlanks : ByteArray := prog_6_method_7_code
def yX4_skipBlanks : MethodName := ⟨RX4, "skipBlanks", "()V"⟩
abbrev cX4_isAtEnd : ByteArray := prog_6_method_8_code
def yX4_isAtEnd : MethodName := ⟨RX4, "isAtEnd", "()Z"⟩
abbrev cX4_isDigitHere : ByteArray := prog_6_method_9_code
def yX4_isDigitHere : MethodName := ⟨RX4, "isDigitHere", "()Z"⟩
abbrev cX4_isNext : ByteArray := prog_6_method_10_code
def yX4_isNext : MethodName := ⟨RX4, "isNext", "(C)Z"⟩
abbrev cX4_skipIf : ByteArray := prog_6_method_11_code
def yX4_skipIf : MethodName := ⟨RX4, "skipIf", "(C)Z"⟩
abbrev cX4_readSign : ByteArray := prog_6_method_12_code
def yX4_readSign : MethodName := ⟨RX4, "readSign", "(C)V"⟩
abbrev cX4_readNumber : ByteArray := prog_6_method_13_code
def yX4_readNumber : MethodName := ⟨RX4, "readNumber", "(II)I"⟩
abbrev cX4_readWord : ByteArray := prog_6_method_14_code
def yX4_readWord : MethodName := ⟨RX4, "readWord", "()V"⟩
abbrev cX4_isWord : ByteArray := prog_6_method_15_code
def yX4_isWord : MethodName := ⟨RX4, "isWord", "(Ljava/lang/String;)Z"⟩
def RX5 : String := "BlockedCars$Search"
def TX5 : u_T := fun k => match k with
  | 0 => ("BlockedCars$Search", "stands", "[J", true)
  | 1 => ("BlockedCars$Search", "firsts", "[B", true)
  | 2 => ("BlockedCars$Search", "slots", "[I", true)
  | 3 => ("BlockedCars$Search", "size", "I", false)
  | 4 => ("BlockedCars$Search", "stamp", "I", false)
  | 5 => ("BlockedCars$Search", "yard", "LBlockedCars$Yard;", false)
  | 6 => ("BlockedCars$Search", "placesMore", "I", false)
  | 7 => ("BlockedCars$Search", "goal", "I", false)
  | 8 => ("BlockedCars$Search", "limit", "I", false)
  | 9 => ("BlockedCars$Search", "wasCut", "Z", false)
  | 10 => ("BlockedCars$Search", "fewest", "I", false)
  | _ => ("BlockedCars$Search", "first", "I", false)
def tyX5 : Nat → FieldType := fun k => match k with
  | 0 => .array .long
  | 1 => .array .byte
  | 2 => .array .int
  | 3 => .int
  | 4 => .int
  | 5 => .object "BlockedCars$Yard"
  | 6 => .int
  | 7 => .int
  | 8 => .int
  | 9 => .boolean
  | 10 => .int
  | _ => .int
abbrev wsX50 : List Cond := u_ws RX5 TX5 12
theorem nmX5 : ∀ a, a < 12 → ∀ b, b < 12 → a ≠ b → (TX5 a).2.1 ≠ (TX5 b).2.1 := by decide +kernel
theorem tyX5_ok : ∀ k, k < 12 → parseFieldDescriptor (TX5 k).2.2.1 = some (tyX5 k) := by decide +kernel
abbrev cX5_init : ByteArray := prog_7_method_1_code
def yX5_init : MethodName := ⟨RX5, "<init>", "()V"⟩
abbrev cX5_seek : ByteArray := prog_7_method_2_code
def yX5_seek : MethodName := ⟨RX5, "seek", "(LBlockedCars$Yard;IJI)I"⟩
abbrev cX5_spread : ByteArray := prog_7_method_3_code
def yX5_spread : MethodName := ⟨RX5, "spread", "(J)V"⟩
abbrev cX5_moveFrom : ByteArray := prog_7_method_4_code
def yX5_moveFrom : MethodName := ⟨RX5, "moveFrom", "(II)V"⟩
abbrev cX5_roomOf : ByteArray := prog_7_method_5_code
def yX5_roomOf : MethodName := ⟨RX5, "roomOf", "(JI)I"⟩
abbrev cX5_arrive : ByteArray := prog_7_method_6_code
def yX5_arrive : MethodName := ⟨RX5, "arrive", "(JII)V"⟩
abbrev cX5_isReached : ByteArray := prog_7_method_7_code
def yX5_isReached : MethodName := ⟨RX5, "isReached", "(J)Z"⟩
abbrev cX5_leastFrom : ByteArray := prog_7_method_8_code
def yX5_leastFrom : MethodName := ⟨RX5, "leastFrom", "(J)I"⟩
abbrev cX5_keep : ByteArray := prog_7_method_9_code
def yX5_keep : MethodName := ⟨RX5, "keep", "(JI)V"⟩
def RX6 : String := "BlockedCars$Spots"
def TX6 : u_T := fun k => match k with
  | 0 => ("BlockedCars$Spots", "lines", "I", false)
  | 1 => ("BlockedCars$Spots", "oil", "I", false)
  | 2 => ("BlockedCars$Spots", "places", "I", false)
  | 3 => ("BlockedCars$Spots", "standing", "[I", true)
  | _ => ("BlockedCars$Spots", "cars", "I", false)
def tyX6 : Nat → FieldType := fun k => match k with
  | 0 => .int
  | 1 => .int
  | 2 => .int
  | 3 => .array .int
  | _ => .int
abbrev wsX60 : List Cond := u_ws RX6 TX6 5
theorem nmX6 : ∀ a, a < 5 → ∀ b, b < 5 → a ≠ b → (TX6 a).2.1 ≠ (TX6 b).2.1 := by decide +kernel
theorem tyX6_ok : ∀ k, k < 5 → parseFieldDescriptor (TX6 k).2.2.1 = some (tyX6 k) := by decide +kernel
abbrev cX6_init : ByteArray := prog_8_method_1_code
def yX6_init : MethodName := ⟨RX6, "<init>", "()V"⟩
abbrev cX6_clear : ByteArray := prog_8_method_2_code
def yX6_clear : MethodName := ⟨RX6, "clear", "()V"⟩
abbrev cX6_read : ByteArray := prog_8_method_3_code
def yX6_read : MethodName := ⟨RX6, "read", "(LBlockedCars$Reader;LBlockedCars$Yard;)V"⟩
abbrev cX6_readLine : ByteArray := prog_8_method_4_code
def yX6_readLine : MethodName := ⟨RX6, "readLine", "(LBlockedCars$Reader;LBlockedCars$Yard;)V"⟩
abbrev cX6_lookAt : ByteArray := prog_8_method_5_code
def yX6_lookAt : MethodName := ⟨RX6, "lookAt", "(LBlockedCars$Yard;J)V"⟩
abbrev cX6_isRight : ByteArray := prog_8_method_6_code
def yX6_isRight : MethodName := ⟨RX6, "isRight", "(I)Z"⟩
abbrev cX6_howManySets : ByteArray := prog_8_method_7_code
def yX6_howManySets : MethodName := ⟨RX6, "howManySets", "()I"⟩
abbrev cX6_firstSet : ByteArray := prog_8_method_8_code
def yX6_firstSet : MethodName := ⟨RX6, "firstSet", "()I"⟩
abbrev cX6_carsInAllSets : ByteArray := prog_8_method_9_code
def yX6_carsInAllSets : MethodName := ⟨RX6, "carsInAllSets", "()I"⟩
abbrev cX6_worstAt : ByteArray := prog_8_method_10_code
def yX6_worstAt : MethodName := ⟨RX6, "worstAt", "(I)I"⟩
abbrev cX6_bestPlace : ByteArray := prog_8_method_11_code
def yX6_bestPlace : MethodName := ⟨RX6, "bestPlace", "()I"⟩
def RX7 : String := "BlockedCars$Stand"
def TX7 : u_T := fun k => match k with
  | _ => ("", "", "", false)
def tyX7 : Nat → FieldType := fun k => match k with
  | _ => .int
abbrev wsX70 : List Cond := u_ws RX7 TX7 0
theorem nmX7 : ∀ a, a < 0 → ∀ b, b < 0 → a ≠ b → (TX7 a).2.1 ≠ (TX7 b).2.1 := by decide +kernel
theorem tyX7_ok : ∀ k, k < 0 → parseFieldDescriptor (TX7 k).2.2.1 = some (tyX7 k) := by decide +kernel
abbrev cX7_rowOf : ByteArray := prog_9_method_2_code
def yX7_rowOf : MethodName := ⟨RX7, "rowOf", "(JI)I"⟩
abbrev cX7_withRow : ByteArray := prog_9_method_3_code
def yX7_withRow : MethodName := ⟨RX7, "withRow", "(JII)J"⟩
abbrev cX7_frontOf : ByteArray := prog_9_method_4_code
def yX7_frontOf : MethodName := ⟨RX7, "frontOf", "(JI)I"⟩
abbrev cX7_carAtWall : ByteArray := prog_9_method_5_code
def yX7_carAtWall : MethodName := ⟨RX7, "carAtWall", "(JI)I"⟩
abbrev cX7_driveOut : ByteArray := prog_9_method_6_code
def yX7_driveOut : MethodName := ⟨RX7, "driveOut", "(JI)J"⟩
abbrev cX7_driveIn : ByteArray := prog_9_method_7_code
def yX7_driveIn : MethodName := ⟨RX7, "driveIn", "(JII)J"⟩
abbrev cX7_carsIn : ByteArray := prog_9_method_8_code
def yX7_carsIn : MethodName := ⟨RX7, "carsIn", "(J)I"⟩
abbrev cX7_slotOf : ByteArray := prog_9_method_9_code
def yX7_slotOf : MethodName := ⟨RX7, "slotOf", "(JI)I"⟩
abbrev cX7_laneOf : ByteArray := prog_9_method_10_code
def yX7_laneOf : MethodName := ⟨RX7, "laneOf", "(JI)I"⟩
abbrev cX7_aheadOf : ByteArray := prog_9_method_11_code
def yX7_aheadOf : MethodName := ⟨RX7, "aheadOf", "(JI)I"⟩
abbrev cX7_takeAway : ByteArray := prog_9_method_12_code
def yX7_takeAway : MethodName := ⟨RX7, "takeAway", "(JI)J"⟩
def RX8 : String := "BlockedCars$Work"
def TX8 : u_T := fun k => match k with
  | 0 => ("BlockedCars$Work", "kinds", "[I", true)
  | 1 => ("BlockedCars$Work", "ones", "[I", true)
  | 2 => ("BlockedCars$Work", "twos", "[I", true)
  | 3 => ("BlockedCars$Work", "threes", "[I", true)
  | 4 => ("BlockedCars$Work", "roundsLeft", "[I", true)
  | 5 => ("BlockedCars$Work", "size", "I", false)
  | 6 => ("BlockedCars$Work", "done", "I", false)
  | _ => ("BlockedCars$Work", "refused", "I", false)
def tyX8 : Nat → FieldType := fun k => match k with
  | 0 => .array .int
  | 1 => .array .int
  | 2 => .array .int
  | 3 => .array .int
  | 4 => .array .int
  | 5 => .int
  | 6 => .int
  | _ => .int
abbrev wsX80 : List Cond := u_ws RX8 TX8 8
theorem nmX8 : ∀ a, a < 8 → ∀ b, b < 8 → a ≠ b → (TX8 a).2.1 ≠ (TX8 b).2.1 := by decide +kernel
theorem tyX8_ok : ∀ k, k < 8 → parseFieldDescriptor (TX8 k).2.2.1 = some (tyX8 k) := by decide +kernel
abbrev cX8_init : ByteArray := prog_10_method_1_code
def yX8_init : MethodName := ⟨RX8, "<init>", "()V"⟩
abbrev cX8_read : ByteArray := prog_10_method_2_code
def yX8_read : MethodName := ⟨RX8, "read", "(LBlockedCars$Reader;LBlockedCars$Yard;)V"⟩
abbrev cX8_readSteps : ByteArray := prog_10_method_3_code
def yX8_readSteps : MethodName := ⟨RX8, "readSteps", "(LBlockedCars$Reader;LBlockedCars$Yard;I)V"⟩
abbrev cX8_readStep : ByteArray := prog_10_method_4_code
def yX8_readStep : MethodName := ⟨RX8, "readStep", "(LBlockedCars$Reader;LBlockedCars$Yard;I)V"⟩
abbrev cX8_readLane : ByteArray := prog_10_method_5_code
def yX8_readLane : MethodName := ⟨RX8, "readLane", "(LBlockedCars$Reader;LBlockedCars$Yard;)I"⟩
abbrev cX8_readAgain : ByteArray := prog_10_method_6_code
def yX8_readAgain : MethodName := ⟨RX8, "readAgain", "(LBlockedCars$Reader;LBlockedCars$Yard;I)V"⟩
abbrev cX8_write : ByteArray := prog_10_method_7_code
def yX8_write : MethodName := ⟨RX8, "write", "(IIII)V"⟩
abbrev cX8_run : ByteArray := prog_10_method_8_code
def yX8_run : MethodName := ⟨RX8, "run", "(LBlockedCars$Yard;LBlockedCars$Law;LBlockedCars$Position;)V"⟩
abbrev cX8_endRound : ByteArray := prog_10_method_9_code
def yX8_endRound : MethodName := ⟨RX8, "endRound", "(I)I"⟩
abbrev cX8_countStep : ByteArray := prog_10_method_10_code
def yX8_countStep : MethodName := ⟨RX8, "countStep", "(Z)V"⟩
abbrev cX8_doStep : ByteArray := prog_10_method_11_code
def yX8_doStep : MethodName := ⟨RX8, "doStep", "(ILBlockedCars$Yard;LBlockedCars$Law;LBlockedCars$Position;)Z"⟩
abbrev cX8_park : ByteArray := prog_10_method_12_code
def yX8_park : MethodName := ⟨RX8, "park", "(IILBlockedCars$Yard;LBlockedCars$Position;)Z"⟩
abbrev cX8_move : ByteArray := prog_10_method_13_code
def yX8_move : MethodName := ⟨RX8, "move", "(ILBlockedCars$Yard;LBlockedCars$Law;LBlockedCars$Position;)Z"⟩
abbrev cX8_driveOff : ByteArray := prog_10_method_14_code
def yX8_driveOff : MethodName := ⟨RX8, "driveOff", "(ILBlockedCars$Position;)Z"⟩
def RX9 : String := "BlockedCars$Yard"
def TX9 : u_T := fun k => match k with
  | 0 => ("BlockedCars$Yard", "lanes", "I", false)
  | 1 => ("BlockedCars$Yard", "cars", "I", false)
  | 2 => ("BlockedCars$Yard", "cost", "I", false)
  | 3 => ("BlockedCars$Yard", "places", "[I", true)
  | 4 => ("BlockedCars$Yard", "lengths", "[I", true)
  | 5 => ("BlockedCars$Yard", "hours", "[I", true)
  | 6 => ("BlockedCars$Yard", "tries", "[I", true)
  | 7 => ("BlockedCars$Yard", "keys", "[I", true)
  | 8 => ("BlockedCars$Yard", "sooner", "[I", true)
  | 9 => ("BlockedCars$Yard", "leaving", "[I", true)
  | _ => ("BlockedCars$Yard", "coming", "[I", true)
def tyX9 : Nat → FieldType := fun k => match k with
  | 0 => .int
  | 1 => .int
  | 2 => .int
  | 3 => .array .int
  | 4 => .array .int
  | 5 => .array .int
  | 6 => .array .int
  | 7 => .array .int
  | 8 => .array .int
  | 9 => .array .int
  | _ => .array .int
abbrev wsX90 : List Cond := u_ws RX9 TX9 11
theorem nmX9 : ∀ a, a < 11 → ∀ b, b < 11 → a ≠ b → (TX9 a).2.1 ≠ (TX9 b).2.1 := by decide +kernel
theorem tyX9_ok : ∀ k, k < 11 → parseFieldDescriptor (TX9 k).2.2.1 = some (tyX9 k) := by decide +kernel
abbrev cX9_init : ByteArray := prog_11_method_1_code
def yX9_init : MethodName := ⟨RX9, "<init>", "()V"⟩
abbrev cX9_read : ByteArray := prog_11_method_2_code
def yX9_read : MethodName := ⟨RX9, "read", "(LBlockedCars$Reader;)V"⟩
abbrev cX9_readClause : ByteArray := prog_11_method_3_code
def yX9_readClause : MethodName := ⟨RX9, "readClause", "(LBlockedCars$Reader;I)V"⟩
abbrev cX9_kindOf : ByteArray := prog_11_method_4_code
def yX9_kindOf : MethodName := ⟨RX9, "kindOf", "(LBlockedCars$Reader;)I"⟩
abbrev cX9_readLane : ByteArray := prog_11_method_5_code
def yX9_readLane : MethodName := ⟨RX9, "readLane", "(LBlockedCars$Reader;)V"⟩
abbrev cX9_readCar : ByteArray := prog_11_method_6_code
def yX9_readCar : MethodName := ⟨RX9, "readCar", "(LBlockedCars$Reader;)V"⟩
abbrev cX9_readKey : ByteArray := prog_11_method_7_code
def yX9_readKey : MethodName := ⟨RX9, "readKey", "(LBlockedCars$Reader;)V"⟩
abbrev cX9_order : ByteArray := prog_11_method_8_code
def yX9_order : MethodName := ⟨RX9, "order", "()V"⟩
abbrev cX9_isSooner : ByteArray := prog_11_method_9_code
def yX9_isSooner : MethodName := ⟨RX9, "isSooner", "(II)Z"⟩
abbrev cX9_placesOf : ByteArray := prog_11_method_10_code
def yX9_placesOf : MethodName := ⟨RX9, "placesOf", "(I)I"⟩
abbrev cX9_lengthOf : ByteArray := prog_11_method_11_code
def yX9_lengthOf : MethodName := ⟨RX9, "lengthOf", "(I)I"⟩
abbrev cX9_hourOf : ByteArray := prog_11_method_12_code
def yX9_hourOf : MethodName := ⟨RX9, "hourOf", "(I)I"⟩
abbrev cX9_triesOf : ByteArray := prog_11_method_13_code
def yX9_triesOf : MethodName := ⟨RX9, "triesOf", "(I)I"⟩
abbrev cX9_keysOf : ByteArray := prog_11_method_14_code
def yX9_keysOf : MethodName := ⟨RX9, "keysOf", "(I)I"⟩
abbrev cX9_roomOf : ByteArray := prog_11_method_15_code
def yX9_roomOf : MethodName := ⟨RX9, "roomOf", "(JI)I"⟩
abbrev cX9_carOn : ByteArray := prog_11_method_16_code
def yX9_carOn : MethodName := ⟨RX9, "carOn", "(JII)I"⟩
abbrev cX9_firstPlaceOf : ByteArray := prog_11_method_17_code
def yX9_firstPlaceOf : MethodName := ⟨RX9, "firstPlaceOf", "(JI)I"⟩
abbrev cX9_pairsOf : ByteArray := prog_11_method_18_code
def yX9_pairsOf : MethodName := ⟨RX9, "pairsOf", "(J)I"⟩
abbrev cX9_blockings : ByteArray := prog_11_method_19_code
def yX9_blockings : MethodName := ⟨RX9, "blockings", "(JI)I"⟩
abbrev cX9_nextOut : ByteArray := prog_11_method_20_code
def yX9_nextOut : MethodName := ⟨RX9, "nextOut", "(J)I"⟩
abbrev cX9_letOut : ByteArray := prog_11_method_21_code
def yX9_letOut : MethodName := ⟨RX9, "letOut", "(J)J"⟩
abbrev cX9_comeHome : ByteArray := prog_11_method_22_code
def yX9_comeHome : MethodName := ⟨RX9, "comeHome", "(J)J"⟩
abbrev cX9_widestLane : ByteArray := prog_11_method_23_code
def yX9_widestLane : MethodName := ⟨RX9, "widestLane", "(J)I"⟩
abbrev cX9_getsOutAlone : ByteArray := prog_11_method_24_code
def yX9_getsOutAlone : MethodName := ⟨RX9, "getsOutAlone", "(JI)Z"⟩
abbrev cX9_firstOtherLane : ByteArray := prog_11_method_25_code
def yX9_firstOtherLane : MethodName := ⟨RX9, "firstOtherLane", "(JII)I"⟩
abbrev cX9_bestEvening : ByteArray := prog_11_method_26_code
def yX9_bestEvening : MethodName := ⟨RX9, "bestEvening", "(I)I"⟩
abbrev cX9_eveningBy : ByteArray := prog_11_method_27_code
def yX9_eveningBy : MethodName := ⟨RX9, "eveningBy", "(II)I"⟩
def RX10 : String := "BlockedCars"
def TX10 : u_T := fun k => match k with
  | 0 => ("BlockedCars", "reader", "LBlockedCars$Reader;", true)
  | 1 => ("BlockedCars", "yard", "LBlockedCars$Yard;", false)
  | 2 => ("BlockedCars", "yardDraft", "LBlockedCars$Yard;", false)
  | 3 => ("BlockedCars", "law", "LBlockedCars$Law;", false)
  | 4 => ("BlockedCars", "lawDraft", "LBlockedCars$Law;", false)
  | 5 => ("BlockedCars", "spots", "LBlockedCars$Spots;", false)
  | 6 => ("BlockedCars", "spotsDraft", "LBlockedCars$Spots;", false)
  | 7 => ("BlockedCars", "work", "LBlockedCars$Work;", true)
  | 8 => ("BlockedCars", "past", "LBlockedCars$Past;", true)
  | 9 => ("BlockedCars", "images", "[LBlockedCars$Past;", true)
  | 10 => ("BlockedCars", "search", "LBlockedCars$Search;", true)
  | 11 => ("BlockedCars", "days", "LBlockedCars$Days;", true)
  | 12 => ("BlockedCars", "imageCount", "I", false)
  | 13 => ("BlockedCars", "refusedSteps", "I", false)
  | 14 => ("BlockedCars", "refusedNoSuch", "I", false)
  | _ => ("BlockedCars", "refusedIllegal", "I", false)
def tyX10 : Nat → FieldType := fun k => match k with
  | 0 => .object "BlockedCars$Reader"
  | 1 => .object "BlockedCars$Yard"
  | 2 => .object "BlockedCars$Yard"
  | 3 => .object "BlockedCars$Law"
  | 4 => .object "BlockedCars$Law"
  | 5 => .object "BlockedCars$Spots"
  | 6 => .object "BlockedCars$Spots"
  | 7 => .object "BlockedCars$Work"
  | 8 => .object "BlockedCars$Past"
  | 9 => .array (.object "BlockedCars$Past")
  | 10 => .object "BlockedCars$Search"
  | 11 => .object "BlockedCars$Days"
  | 12 => .int
  | 13 => .int
  | 14 => .int
  | _ => .int
abbrev wsX100 : List Cond := u_ws RX10 TX10 16
theorem nmX10 : ∀ a, a < 16 → ∀ b, b < 16 → a ≠ b → (TX10 a).2.1 ≠ (TX10 b).2.1 := by decide +kernel
theorem tyX10_ok : ∀ k, k < 16 → parseFieldDescriptor (TX10 k).2.2.1 = some (tyX10 k) := by decide +kernel
abbrev cX10_init : ByteArray := prog_1_method_1_code
def yX10_init : MethodName := ⟨RX10, "<init>", "()V"⟩
abbrev cX10_feed : ByteArray := prog_1_method_2_code
def yX10_feed : MethodName := ⟨RX10, "feed", "(IIIII)I"⟩
abbrev cX10_yard : ByteArray := prog_1_method_3_code
def yX10_yard : MethodName := ⟨RX10, "yard", "(I)I"⟩
abbrev cX10_law : ByteArray := prog_1_method_4_code
def yX10_law : MethodName := ⟨RX10, "law", "(I)I"⟩
abbrev cX10_work : ByteArray := prog_1_method_5_code
def yX10_work : MethodName := ⟨RX10, "work", "(I)I"⟩
abbrev cX10_spots : ByteArray := prog_1_method_6_code
def yX10_spots : MethodName := ⟨RX10, "spots", "(I)I"⟩
abbrev cX10_fault : ByteArray := prog_1_method_7_code
def yX10_fault : MethodName := ⟨RX10, "fault", "()I"⟩
abbrev cX10_undo : ByteArray := prog_1_method_8_code
def yX10_undo : MethodName := ⟨RX10, "undo", "()I"⟩
abbrev cX10_told : ByteArray := prog_1_method_9_code
def yX10_told : MethodName := ⟨RX10, "told", "(I)I"⟩
abbrev cX10_lane : ByteArray := prog_1_method_10_code
def yX10_lane : MethodName := ⟨RX10, "lane", "(II)I"⟩
abbrev cX10_car : ByteArray := prog_1_method_11_code
def yX10_car : MethodName := ⟨RX10, "car", "(II)I"⟩
abbrev cX10_on : ByteArray := prog_1_method_12_code
def yX10_on : MethodName := ⟨RX10, "on", "(II)I"⟩
abbrev cX10_seconds : ByteArray := prog_1_method_13_code
def yX10_seconds : MethodName := ⟨RX10, "seconds", "(II)I"⟩
abbrev cX10_would : ByteArray := prog_1_method_14_code
def yX10_would : MethodName := ⟨RX10, "would", "(IIIIIIII)I"⟩
abbrev cX10_ahead : ByteArray := prog_1_method_15_code
def yX10_ahead : MethodName := ⟨RX10, "ahead", "(I)I"⟩
abbrev cX10_frees : ByteArray := prog_1_method_16_code
def yX10_frees : MethodName := ⟨RX10, "frees", "(II)I"⟩
abbrev cX10_morning : ByteArray := prog_1_method_17_code
def yX10_morning : MethodName := ⟨RX10, "morning", "(I)I"⟩
abbrev cX10_corner : ByteArray := prog_1_method_18_code
def yX10_corner : MethodName := ⟨RX10, "corner", "(I)I"⟩
abbrev cX10_goes : ByteArray := prog_1_method_19_code
def yX10_goes : MethodName := ⟨RX10, "goes", "(I)Z"⟩
abbrev cX10_evening : ByteArray := prog_1_method_20_code
def yX10_evening : MethodName := ⟨RX10, "evening", "(II)I"⟩
abbrev cX10_sure : ByteArray := prog_1_method_21_code
def yX10_sure : MethodName := ⟨RX10, "sure", "(III)I"⟩
abbrev cX10_leaks : ByteArray := prog_1_method_22_code
def yX10_leaks : MethodName := ⟨RX10, "leaks", "(I)I"⟩
abbrev cX10_look : ByteArray := prog_1_method_23_code
def yX10_look : MethodName := ⟨RX10, "look", "(I)I"⟩
abbrev cX10_fronts : ByteArray := prog_1_method_24_code
def yX10_fronts : MethodName := ⟨RX10, "fronts", "(IIII)I"⟩
abbrev cX10_pays : ByteArray := prog_1_method_25_code
def yX10_pays : MethodName := ⟨RX10, "pays", "(III)I"⟩
abbrev cX10_spare : ByteArray := prog_1_method_26_code
def yX10_spare : MethodName := ⟨RX10, "spare", "(I)I"⟩
abbrev cX10_next : ByteArray := prog_1_method_27_code
def yX10_next : MethodName := ⟨RX10, "next", "(I)I"⟩
abbrev cX10_most : ByteArray := prog_1_method_28_code
def yX10_most : MethodName := ⟨RX10, "most", "(I)I"⟩
abbrev cX10_days : ByteArray := prog_1_method_29_code
def yX10_days : MethodName := ⟨RX10, "days", "(IIII)I"⟩
abbrev cX10_span : ByteArray := prog_1_method_30_code
def yX10_span : MethodName := ⟨RX10, "span", "(IIIIII)I"⟩
abbrev cX10_image : ByteArray := prog_1_method_31_code
def yX10_image : MethodName := ⟨RX10, "image", "()I"⟩
abbrev cX10_restore : ByteArray := prog_1_method_32_code
def yX10_restore : MethodName := ⟨RX10, "restore", "()I"⟩
abbrev cX10_status : ByteArray := prog_1_method_33_code
def yX10_status : MethodName := ⟨RX10, "status", "(I)I"⟩
abbrev cX10_count : ByteArray := prog_1_method_34_code
def yX10_count : MethodName := ⟨RX10, "count", "(I)I"⟩
abbrev cX10_need : ByteArray := prog_1_method_35_code
def yX10_need : MethodName := ⟨RX10, "need", "(Z)V"⟩
abbrev cX10_needLane : ByteArray := prog_1_method_36_code
def yX10_needLane : MethodName := ⟨RX10, "needLane", "(I)V"⟩
abbrev cX10_needCar : ByteArray := prog_1_method_37_code
def yX10_needCar : MethodName := ⟨RX10, "needCar", "(I)V"⟩
abbrev cX10_areCars : ByteArray := prog_1_method_38_code
def yX10_areCars : MethodName := ⟨RX10, "areCars", "(I)Z"⟩
abbrev cX10_roomOfAll : ByteArray := prog_1_method_39_code
def yX10_roomOfAll : MethodName := ⟨RX10, "roomOfAll", "(J)I"⟩
abbrev cX10_isWithin : ByteArray := prog_1_method_40_code
def yX10_isWithin : MethodName := ⟨RX10, "isWithin", "(III)Z"⟩
abbrev cX10_hasByBid : ByteArray := prog_1_method_41_code
def yX10_hasByBid : MethodName := ⟨RX10, "hasByBid", "(IIII)I"⟩
abbrev cX10_isBest : ByteArray := prog_1_method_42_code
def yX10_isBest : MethodName := ⟨RX10, "isBest", "(IIIII)Z"⟩
def RX11 : String := "BlockedCarsModel"
def TX11 : u_T := fun k => match k with
  | 0 => ("BlockedCarsModel", "thrown", "I", false)
  | 1 => ("BlockedCarsModel", "tape", "I", false)
  | 2 => ("BlockedCarsModel", "size", "I", false)
  | 3 => ("BlockedCarsModel", "place", "I", false)
  | 4 => ("BlockedCarsModel", "at", "I", false)
  | 5 => ("BlockedCarsModel", "fault", "I", false)
  | 6 => ("BlockedCarsModel", "faultAt", "I", false)
  | 7 => ("BlockedCarsModel", "clauses", "I", false)
  | 8 => ("BlockedCarsModel", "open", "I", false)
  | 9 => ("BlockedCarsModel", "fed", "[I", true)
  | 10 => ("BlockedCarsModel", "refused", "[I", true)
  | 11 => ("BlockedCarsModel", "readTold", "[I", true)
  | 12 => ("BlockedCarsModel", "told", "[I", true)
  | 13 => ("BlockedCarsModel", "readPlaces", "[I", true)
  | 14 => ("BlockedCarsModel", "places", "[I", true)
  | 15 => ("BlockedCarsModel", "readKeys", "[I", true)
  | 16 => ("BlockedCarsModel", "keys", "[I", true)
  | 17 => ("BlockedCarsModel", "readCar", "[[I", true)
  | 18 => ("BlockedCarsModel", "car", "[[I", true)
  | 19 => ("BlockedCarsModel", "lawMany", "I", false)
  | 20 => ("BlockedCarsModel", "readLawMany", "I", false)
  | 21 => ("BlockedCarsModel", "law", "[[I", true)
  | 22 => ("BlockedCarsModel", "readLaw", "[[I", true)
  | 23 => ("BlockedCarsModel", "spot2", "[[I", true)
  | 24 => ("BlockedCarsModel", "readSpot", "[[I", true)
  | 25 => ("BlockedCarsModel", "stack", "[I", true)
  | 26 => ("BlockedCarsModel", "known", "[I", true)
  | 27 => ("BlockedCarsModel", "step", "[[I", true)
  | 28 => ("BlockedCarsModel", "steps", "I", false)
  | 29 => ("BlockedCarsModel", "now", "[I", true)
  | 30 => ("BlockedCarsModel", "trial", "[I", true)
  | 31 => ("BlockedCarsModel", "before", "[[I", true)
  | 32 => ("BlockedCarsModel", "kept", "[[I", true)
  | 33 => ("BlockedCarsModel", "lines", "I", false)
  | 34 => ("BlockedCarsModel", "works", "I", false)
  | 35 => ("BlockedCarsModel", "refusedSteps", "I", false)
  | 36 => ("BlockedCarsModel", "images", "I", false)
  | 37 => ("BlockedCarsModel", "spot", "I", false)
  | 38 => ("BlockedCarsModel", "begun", "I", false)
  | 39 => ("BlockedCarsModel", "doneSteps", "I", false)
  | 40 => ("BlockedCarsModel", "queue", "[I", true)
  | 41 => ("BlockedCarsModel", "depth", "[I", true)
  | 42 => ("BlockedCarsModel", "firstMove", "[I", true)
  | 43 => ("BlockedCarsModel", "line", "[I", true)
  | 44 => ("BlockedCarsModel", "yardRow", "[I", true)
  | 45 => ("BlockedCarsModel", "nextRow", "[I", true)
  | 46 => ("BlockedCarsModel", "foundFirst", "I", false)
  | 47 => ("BlockedCarsModel", "wider", "I", false)
  | 48 => ("BlockedCarsModel", "fewestPairs", "I", false)
  | 49 => ("BlockedCarsModel", "bestLanes", "I", false)
  | 50 => ("BlockedCarsModel", "lots", "I", false)
  | 51 => ("BlockedCarsModel", "went", "I", false)
  | _ => ("BlockedCarsModel", "ills", "I", false)
def tyX11 : Nat → FieldType := fun k => match k with
  | 0 => .int
  | 1 => .int
  | 2 => .int
  | 3 => .int
  | 4 => .int
  | 5 => .int
  | 6 => .int
  | 7 => .int
  | 8 => .int
  | 9 => .array .int
  | 10 => .array .int
  | 11 => .array .int
  | 12 => .array .int
  | 13 => .array .int
  | 14 => .array .int
  | 15 => .array .int
  | 16 => .array .int
  | 17 => .array (.array .int)
  | 18 => .array (.array .int)
  | 19 => .int
  | 20 => .int
  | 21 => .array (.array .int)
  | 22 => .array (.array .int)
  | 23 => .array (.array .int)
  | 24 => .array (.array .int)
  | 25 => .array .int
  | 26 => .array .int
  | 27 => .array (.array .int)
  | 28 => .int
  | 29 => .array .int
  | 30 => .array .int
  | 31 => .array (.array .int)
  | 32 => .array (.array .int)
  | 33 => .int
  | 34 => .int
  | 35 => .int
  | 36 => .int
  | 37 => .int
  | 38 => .int
  | 39 => .int
  | 40 => .array .int
  | 41 => .array .int
  | 42 => .array .int
  | 43 => .array .int
  | 44 => .array .int
  | 45 => .array .int
  | 46 => .int
  | 47 => .int
  | 48 => .int
  | 49 => .int
  | 50 => .int
  | 51 => .int
  | _ => .int
abbrev wsX110 : List Cond := u_ws RX11 TX11 53
theorem nmX11 : ∀ a, a < 53 → ∀ b, b < 53 → a ≠ b → (TX11 a).2.1 ≠ (TX11 b).2.1 := by decide +kernel
theorem tyX11_ok : ∀ k, k < 53 → parseFieldDescriptor (TX11 k).2.2.1 = some (tyX11 k) := by decide +kernel
abbrev cX11_init : ByteArray := prog_13_method_1_code
def yX11_init : MethodName := ⟨RX11, "<init>", "()V"⟩
abbrev cX11_tellsNothing : ByteArray := prog_13_method_2_code
def yX11_tellsNothing : MethodName := ⟨RX11, "tellsNothing", "()V"⟩
abbrev cX11_thrown : ByteArray := prog_13_method_3_code
def yX11_thrown : MethodName := ⟨RX11, "thrown", "()I"⟩
abbrev cX11_bad : ByteArray := prog_13_method_4_code
def yX11_bad : MethodName := ⟨RX11, "bad", "(ZII)Z"⟩
abbrev cX11_in : ByteArray := prog_13_method_5_code
def yX11_in : MethodName := ⟨RX11, "in", "(III)Z"⟩
abbrev cX11_less : ByteArray := prog_13_method_6_code
def yX11_less : MethodName := ⟨RX11, "less", "(II)I"⟩
abbrev cX11_more : ByteArray := prog_13_method_7_code
def yX11_more : MethodName := ⟨RX11, "more", "(II)I"⟩
abbrev cX11_has : ByteArray := prog_13_method_8_code
def yX11_has : MethodName := ⟨RX11, "has", "(II)Z"⟩
abbrev cX11_feed : ByteArray := prog_13_method_9_code
def yX11_feed : MethodName := ⟨RX11, "feed", "(IIIII)I"⟩
abbrev cX11_byteAt : ByteArray := prog_13_method_10_code
def yX11_byteAt : MethodName := ⟨RX11, "byteAt", "(I)I"⟩
abbrev cX11_blanks : ByteArray := prog_13_method_11_code
def yX11_blanks : MethodName := ⟨RX11, "blanks", "()V"⟩
abbrev cX11_wrong : ByteArray := prog_13_method_12_code
def yX11_wrong : MethodName := ⟨RX11, "wrong", "(II)V"⟩
abbrev cX11_isDigit : ByteArray := prog_13_method_13_code
def yX11_isDigit : MethodName := ⟨RX11, "isDigit", "(I)Z"⟩
abbrev cX11_isSmall : ByteArray := prog_13_method_14_code
def yX11_isSmall : MethodName := ⟨RX11, "isSmall", "(I)Z"⟩
abbrev cX11_number : ByteArray := prog_13_method_15_code
def yX11_number : MethodName := ⟨RX11, "number", "(II)I"⟩
abbrev cX11_wordHere : ByteArray := prog_13_method_16_code
def yX11_wordHere : MethodName := ⟨RX11, "wordHere", "()I"⟩
abbrev cX11_six : ByteArray := prog_13_method_17_code
def yX11_six : MethodName := ⟨RX11, "six", "(IIIIII)I"⟩
abbrev cX11_isWord : ByteArray := prog_13_method_18_code
def yX11_isWord : MethodName := ⟨RX11, "isWord", "(IIIIII)Z"⟩
abbrev cX11_skipWord : ByteArray := prog_13_method_19_code
def yX11_skipWord : MethodName := ⟨RX11, "skipWord", "()V"⟩
abbrev cX11_takes : ByteArray := prog_13_method_20_code
def yX11_takes : MethodName := ⟨RX11, "takes", "(IIIIII)Z"⟩
abbrev cX11_sign : ByteArray := prog_13_method_21_code
def yX11_sign : MethodName := ⟨RX11, "sign", "(I)V"⟩
abbrev cX11_takesSign : ByteArray := prog_13_method_22_code
def yX11_takesSign : MethodName := ⟨RX11, "takesSign", "(I)Z"⟩
abbrev cX11_starts : ByteArray := prog_13_method_23_code
def yX11_starts : MethodName := ⟨RX11, "starts", "(I)V"⟩
abbrev cX11_ends : ByteArray := prog_13_method_24_code
def yX11_ends : MethodName := ⟨RX11, "ends", "()I"⟩
abbrev cX11_kindHere : ByteArray := prog_13_method_25_code
def yX11_kindHere : MethodName := ⟨RX11, "kindHere", "()I"⟩
abbrev cX11_clause : ByteArray := prog_13_method_26_code
def yX11_clause : MethodName := ⟨RX11, "clause", "()V"⟩
abbrev cX11_yard : ByteArray := prog_13_method_27_code
def yX11_yard : MethodName := ⟨RX11, "yard", "(I)I"⟩
abbrev cX11_lays : ByteArray := prog_13_method_28_code
def yX11_lays : MethodName := ⟨RX11, "lays", "([[I[[II)V"⟩
abbrev cX11_copies : ByteArray := prog_13_method_29_code
def yX11_copies : MethodName := ⟨RX11, "copies", "([I[I)V"⟩
abbrev cX11_beginsAnew : ByteArray := prog_13_method_30_code
def yX11_beginsAnew : MethodName := ⟨RX11, "beginsAnew", "()V"⟩
abbrev cX11_notes : ByteArray := prog_13_method_31_code
def yX11_notes : MethodName := ⟨RX11, "notes", "(II)V"⟩
abbrev cX11_opensOne : ByteArray := prog_13_method_32_code
def yX11_opensOne : MethodName := ⟨RX11, "opensOne", "()Z"⟩
abbrev cX11_sum : ByteArray := prog_13_method_33_code
def yX11_sum : MethodName := ⟨RX11, "sum", "()V"⟩
abbrev cX11_product : ByteArray := prog_13_method_34_code
def yX11_product : MethodName := ⟨RX11, "product", "()V"⟩
abbrev cX11_knownHere : ByteArray := prog_13_method_35_code
def yX11_knownHere : MethodName := ⟨RX11, "knownHere", "()I"⟩
abbrev cX11_one : ByteArray := prog_13_method_36_code
def yX11_one : MethodName := ⟨RX11, "one", "()V"⟩
abbrev cX11_law : ByteArray := prog_13_method_37_code
def yX11_law : MethodName := ⟨RX11, "law", "(I)I"⟩
abbrev cX11_by : ByteArray := prog_13_method_38_code
def yX11_by : MethodName := ⟨RX11, "by", "(III)I"⟩
abbrev cX11_byLaw : ByteArray := prog_13_method_39_code
def yX11_byLaw : MethodName := ⟨RX11, "byLaw", "()I"⟩
abbrev cX11_stepHere : ByteArray := prog_13_method_40_code
def yX11_stepHere : MethodName := ⟨RX11, "stepHere", "()I"⟩
abbrev cX11_readsStep : ByteArray := prog_13_method_41_code
def yX11_readsStep : MethodName := ⟨RX11, "readsStep", "()V"⟩
abbrev cX11_spots : ByteArray := prog_13_method_42_code
def yX11_spots : MethodName := ⟨RX11, "spots", "(I)I"⟩
abbrev cX11_fault : ByteArray := prog_13_method_43_code
def yX11_fault : MethodName := ⟨RX11, "fault", "()I"⟩
abbrev cX11_standing : ByteArray := prog_13_method_44_code
def yX11_standing : MethodName := ⟨RX11, "standing", "([III)I"⟩
abbrev cX11_frontOf : ByteArray := prog_13_method_45_code
def yX11_frontOf : MethodName := ⟨RX11, "frontOf", "([II)I"⟩
abbrev cX11_roomOf : ByteArray := prog_13_method_46_code
def yX11_roomOf : MethodName := ⟨RX11, "roomOf", "([II)I"⟩
abbrev cX11_laneOf : ByteArray := prog_13_method_47_code
def yX11_laneOf : MethodName := ⟨RX11, "laneOf", "([II)I"⟩
abbrev cX11_rankOf : ByteArray := prog_13_method_48_code
def yX11_rankOf : MethodName := ⟨RX11, "rankOf", "([II)I"⟩
abbrev cX11_comesTo : ByteArray := prog_13_method_49_code
def yX11_comesTo : MethodName := ⟨RX11, "comesTo", "([III)V"⟩
abbrev cX11_isLater : ByteArray := prog_13_method_50_code
def yX11_isLater : MethodName := ⟨RX11, "isLater", "(II)Z"⟩
abbrev cX11_pairsIn : ByteArray := prog_13_method_51_code
def yX11_pairsIn : MethodName := ⟨RX11, "pairsIn", "([I)I"⟩
abbrev cX11_insideOf : ByteArray := prog_13_method_52_code
def yX11_insideOf : MethodName := ⟨RX11, "insideOf", "([I)I"⟩
abbrev cX11_secondsOf : ByteArray := prog_13_method_53_code
def yX11_secondsOf : MethodName := ⟨RX11, "secondsOf", "([III)I"⟩
abbrev cX11_moves : ByteArray := prog_13_method_54_code
def yX11_moves : MethodName := ⟨RX11, "moves", "([IIII)Z"⟩
abbrev cX11_roomiest : ByteArray := prog_13_method_55_code
def yX11_roomiest : MethodName := ⟨RX11, "roomiest", "([I)I"⟩
abbrev cX11_latestOut : ByteArray := prog_13_method_56_code
def yX11_latestOut : MethodName := ⟨RX11, "latestOut", "([II)I"⟩
abbrev cX11_swaps : ByteArray := prog_13_method_57_code
def yX11_swaps : MethodName := ⟨RX11, "swaps", "([I)Z"⟩
abbrev cX11_does : ByteArray := prog_13_method_58_code
def yX11_does : MethodName := ⟨RX11, "does", "([I[I)Z"⟩
abbrev cX11_goesOn : ByteArray := prog_13_method_59_code
def yX11_goesOn : MethodName := ⟨RX11, "goesOn", "(II)V"⟩
abbrev cX11_work : ByteArray := prog_13_method_60_code
def yX11_work : MethodName := ⟨RX11, "work", "(I)I"⟩
abbrev cX11_undo : ByteArray := prog_13_method_61_code
def yX11_undo : MethodName := ⟨RX11, "undo", "()I"⟩
abbrev cX11_told : ByteArray := prog_13_method_62_code
def yX11_told : MethodName := ⟨RX11, "told", "(I)I"⟩
abbrev cX11_isLane : ByteArray := prog_13_method_63_code
def yX11_isLane : MethodName := ⟨RX11, "isLane", "(I)Z"⟩
abbrev cX11_isCar : ByteArray := prog_13_method_64_code
def yX11_isCar : MethodName := ⟨RX11, "isCar", "(I)Z"⟩
abbrev cX11_areCars : ByteArray := prog_13_method_65_code
def yX11_areCars : MethodName := ⟨RX11, "areCars", "(I)Z"⟩
abbrev cX11_lane : ByteArray := prog_13_method_66_code
def yX11_lane : MethodName := ⟨RX11, "lane", "(II)I"⟩
abbrev cX11_firstPlace : ByteArray := prog_13_method_67_code
def yX11_firstPlace : MethodName := ⟨RX11, "firstPlace", "(I)I"⟩
abbrev cX11_car : ByteArray := prog_13_method_68_code
def yX11_car : MethodName := ⟨RX11, "car", "(II)I"⟩
abbrev cX11_onPlace : ByteArray := prog_13_method_69_code
def yX11_onPlace : MethodName := ⟨RX11, "onPlace", "(II)I"⟩
abbrev cX11_on : ByteArray := prog_13_method_70_code
def yX11_on : MethodName := ⟨RX11, "on", "(II)I"⟩
abbrev cX11_seconds : ByteArray := prog_13_method_71_code
def yX11_seconds : MethodName := ⟨RX11, "seconds", "(II)I"⟩
abbrev cX11_would : ByteArray := prog_13_method_72_code
def yX11_would : MethodName := ⟨RX11, "would", "(IIIIIIII)I"⟩
abbrev cX11_aheadOf : ByteArray := prog_13_method_73_code
def yX11_aheadOf : MethodName := ⟨RX11, "aheadOf", "(I)I"⟩
abbrev cX11_ahead : ByteArray := prog_13_method_74_code
def yX11_ahead : MethodName := ⟨RX11, "ahead", "(I)I"⟩
abbrev cX11_asNumber : ByteArray := prog_13_method_75_code
def yX11_asNumber : MethodName := ⟨RX11, "asNumber", "([I)I"⟩
abbrev cX11_asRow : ByteArray := prog_13_method_76_code
def yX11_asRow : MethodName := ⟨RX11, "asRow", "(I[I)V"⟩
abbrev cX11_placeOf : ByteArray := prog_13_method_77_code
def yX11_placeOf : MethodName := ⟨RX11, "placeOf", "(I)I"⟩
abbrev cX11_earliest : ByteArray := prog_13_method_78_code
def yX11_earliest : MethodName := ⟨RX11, "earliest", "([I)I"⟩
abbrev cX11_leaveAll : ByteArray := prog_13_method_79_code
def yX11_leaveAll : MethodName := ⟨RX11, "leaveAll", "([I)V"⟩
abbrev cX11_isGoal : ByteArray := prog_13_method_80_code
def yX11_isGoal : MethodName := ⟨RX11, "isGoal", "([II)Z"⟩
abbrev cX11_fewest : ByteArray := prog_13_method_81_code
def yX11_fewest : MethodName := ⟨RX11, "fewest", "([II)I"⟩
abbrev cX11_frees : ByteArray := prog_13_method_82_code
def yX11_frees : MethodName := ⟨RX11, "frees", "(II)I"⟩
abbrev cX11_morning : ByteArray := prog_13_method_83_code
def yX11_morning : MethodName := ⟨RX11, "morning", "(I)I"⟩
abbrev cX11_takesOut : ByteArray := prog_13_method_84_code
def yX11_takesOut : MethodName := ⟨RX11, "takesOut", "([II)V"⟩
abbrev cX11_corner : ByteArray := prog_13_method_85_code
def yX11_corner : MethodName := ⟨RX11, "corner", "(I)I"⟩
abbrev cX11_spare : ByteArray := prog_13_method_86_code
def yX11_spare : MethodName := ⟨RX11, "spare", "(I)I"⟩
abbrev cX11_goes : ByteArray := prog_13_method_87_code
def yX11_goes : MethodName := ⟨RX11, "goes", "(I)Z"⟩
abbrev cX11_comeHome : ByteArray := prog_13_method_88_code
def yX11_comeHome : MethodName := ⟨RX11, "comeHome", "([IIII)V"⟩
abbrev cX11_evening : ByteArray := prog_13_method_89_code
def yX11_evening : MethodName := ⟨RX11, "evening", "(II)I"⟩
abbrev cX11_sure : ByteArray := prog_13_method_90_code
def yX11_sure : MethodName := ⟨RX11, "sure", "(III)I"⟩
abbrev cX11_isOil : ByteArray := prog_13_method_91_code
def yX11_isOil : MethodName := ⟨RX11, "isOil", "(III)Z"⟩
abbrev cX11_isLeak : ByteArray := prog_13_method_92_code
def yX11_isLeak : MethodName := ⟨RX11, "isLeak", "(I)Z"⟩
abbrev cX11_leaks : ByteArray := prog_13_method_93_code
def yX11_leaks : MethodName := ⟨RX11, "leaks", "(I)I"⟩
abbrev cX11_isTold : ByteArray := prog_13_method_94_code
def yX11_isTold : MethodName := ⟨RX11, "isTold", "(II)Z"⟩
abbrev cX11_look : ByteArray := prog_13_method_95_code
def yX11_look : MethodName := ⟨RX11, "look", "(I)I"⟩
abbrev cX11_hasBy : ByteArray := prog_13_method_96_code
def yX11_hasBy : MethodName := ⟨RX11, "hasBy", "(IIII)I"⟩
abbrev cX11_isBest : ByteArray := prog_13_method_97_code
def yX11_isBest : MethodName := ⟨RX11, "isBest", "(IIIII)Z"⟩
abbrev cX11_fronts : ByteArray := prog_13_method_98_code
def yX11_fronts : MethodName := ⟨RX11, "fronts", "(IIII)I"⟩
abbrev cX11_givenBy : ByteArray := prog_13_method_99_code
def yX11_givenBy : MethodName := ⟨RX11, "givenBy", "(II)I"⟩
abbrev cX11_pays : ByteArray := prog_13_method_100_code
def yX11_pays : MethodName := ⟨RX11, "pays", "(III)I"⟩
abbrev cX11_next : ByteArray := prog_13_method_101_code
def yX11_next : MethodName := ⟨RX11, "next", "(I)I"⟩
abbrev cX11_most : ByteArray := prog_13_method_102_code
def yX11_most : MethodName := ⟨RX11, "most", "(I)I"⟩
abbrev cX11_draw : ByteArray := prog_13_method_103_code
def yX11_draw : MethodName := ⟨RX11, "draw", "(I)I"⟩
abbrev cX11_daysBy : ByteArray := prog_13_method_104_code
def yX11_daysBy : MethodName := ⟨RX11, "daysBy", "(III)V"⟩
abbrev cX11_areDays : ByteArray := prog_13_method_105_code
def yX11_areDays : MethodName := ⟨RX11, "areDays", "(II)Z"⟩
abbrev cX11_days : ByteArray := prog_13_method_106_code
def yX11_days : MethodName := ⟨RX11, "days", "(IIII)I"⟩
abbrev cX11_span : ByteArray := prog_13_method_107_code
def yX11_span : MethodName := ⟨RX11, "span", "(IIIIII)I"⟩
abbrev cX11_puts : ByteArray := prog_13_method_108_code
def yX11_puts : MethodName := ⟨RX11, "puts", "([IIZ)I"⟩
abbrev cX11_putsAll : ByteArray := prog_13_method_109_code
def yX11_putsAll : MethodName := ⟨RX11, "putsAll", "([IZ)V"⟩
abbrev cX11_image : ByteArray := prog_13_method_110_code
def yX11_image : MethodName := ⟨RX11, "image", "()I"⟩
abbrev cX11_restore : ByteArray := prog_13_method_111_code
def yX11_restore : MethodName := ⟨RX11, "restore", "()I"⟩
abbrev cX11_status : ByteArray := prog_13_method_112_code
def yX11_status : MethodName := ⟨RX11, "status", "(I)I"⟩
abbrev cX11_count : ByteArray := prog_13_method_113_code
def yX11_count : MethodName := ⟨RX11, "count", "(I)I"⟩
def RJx145de : String := "java/io/Serializable"
def TJx145de : u_T := fun k => match k with
  | _ => ("", "", "", false)
def tyJx145de : Nat → FieldType := fun k => match k with
  | _ => .int
abbrev wsJx145de0 : List Cond := u_ws RJx145de TJx145de 0
theorem nmJx145de : ∀ a, a < 0 → ∀ b, b < 0 → a ≠ b → (TJx145de a).2.1 ≠ (TJx145de b).2.1 := by decide +kernel
theorem tyJx145de_ok : ∀ k, k < 0 → parseFieldDescriptor (TJx145de k).2.2.1 = some (tyJx145de k) := by decide +kernel
def RJx9f9b0 : String := "java/lang/CharSequence"
def TJx9f9b0 : u_T := fun k => match k with
  | _ => ("", "", "", false)
def tyJx9f9b0 : Nat → FieldType := fun k => match k with
  | _ => .int
abbrev wsJx9f9b00 : List Cond := u_ws RJx9f9b0 TJx9f9b0 0
theorem nmJx9f9b0 : ∀ a, a < 0 → ∀ b, b < 0 → a ≠ b → (TJx9f9b0 a).2.1 ≠ (TJx9f9b0 b).2.1 := by decide +kernel
theorem tyJx9f9b0_ok : ∀ k, k < 0 → parseFieldDescriptor (TJx9f9b0 k).2.2.1 = some (tyJx9f9b0 k) := by decide +kernel
def RJxb160c : String := "java/lang/Comparable"
def TJxb160c : u_T := fun k => match k with
  | _ => ("", "", "", false)
def tyJxb160c : Nat → FieldType := fun k => match k with
  | _ => .int
abbrev wsJxb160c0 : List Cond := u_ws RJxb160c TJxb160c 0
theorem nmJxb160c : ∀ a, a < 0 → ∀ b, b < 0 → a ≠ b → (TJxb160c a).2.1 ≠ (TJxb160c b).2.1 := by decide +kernel
theorem tyJxb160c_ok : ∀ k, k < 0 → parseFieldDescriptor (TJxb160c k).2.2.1 = some (tyJxb160c k) := by decide +kernel
def RJ6 : String := "java/lang/Integer"
def TJ6 : u_T := fun k => match k with
  | _ => ("", "", "", false)
def tyJ6 : Nat → FieldType := fun k => match k with
  | _ => .int
abbrev wsJ60 : List Cond := u_ws RJ6 TJ6 0
theorem nmJ6 : ∀ a, a < 0 → ∀ b, b < 0 → a ≠ b → (TJ6 a).2.1 ≠ (TJ6 b).2.1 := by decide +kernel
theorem tyJ6_ok : ∀ k, k < 0 → parseFieldDescriptor (TJ6 k).2.2.1 = some (tyJ6 k) := by decide +kernel
abbrev cJ6_bitCount_0f7a4 : ByteArray := prog_19_method_49_code
def yJ6_bitCount_0f7a4 : MethodName := ⟨RJ6, "bitCount", "(I)I"⟩
def RJ9 : String := "java/lang/Math"
def TJ9 : u_T := fun k => match k with
  | _ => ("", "", "", false)
def tyJ9 : Nat → FieldType := fun k => match k with
  | _ => .int
abbrev wsJ90 : List Cond := u_ws RJ9 TJ9 0
theorem nmJ9 : ∀ a, a < 0 → ∀ b, b < 0 → a ≠ b → (TJ9 a).2.1 ≠ (TJ9 b).2.1 := by decide +kernel
theorem tyJ9_ok : ∀ k, k < 0 → parseFieldDescriptor (TJ9 k).2.2.1 = some (tyJ9 k) := by decide +kernel
abbrev cJ9_max_7cf53 : ByteArray := prog_20_method_65_code
def yJ9_max_7cf53 : MethodName := ⟨RJ9, "max", "(II)I"⟩
abbrev cJ9_min_7cf53 : ByteArray := prog_20_method_69_code
def yJ9_min_7cf53 : MethodName := ⟨RJ9, "min", "(II)I"⟩
def RJ0 : String := "java/lang/String"
def TJ0 : u_T := fun k => match k with
  | _ => ("", "", "", false)
def tyJ0 : Nat → FieldType := fun k => match k with
  | _ => .int
abbrev wsJ00 : List Cond := u_ws RJ0 TJ0 0
theorem nmJ0 : ∀ a, a < 0 → ∀ b, b < 0 → a ≠ b → (TJ0 a).2.1 ≠ (TJ0 b).2.1 := by decide +kernel
theorem tyJ0_ok : ∀ k, k < 0 → parseFieldDescriptor (TJ0 k).2.2.1 = some (tyJ0 k) := by decide +kernel
abbrev cJ0_length_8abf5 : ByteArray := prog_22_method_54_code
def yJ0_length_8abf5 : MethodName := ⟨RJ0, "length", "()I"⟩
abbrev cJ0_charAt_5068e : ByteArray := prog_22_method_56_code
def yJ0_charAt_5068e : MethodName := ⟨RJ0, "charAt", "(I)C"⟩
abbrev cJ0_coder_7d493 : ByteArray := prog_22_method_152_code
def yJ0_coder_7d493 : MethodName := ⟨RJ0, "coder", "()B"⟩
abbrev cJ0_isLatin1_aae02 : ByteArray := prog_22_method_154_code
def yJ0_isLatin1_aae02 : MethodName := ⟨RJ0, "isLatin1", "()Z"⟩
abbrev cJ0_checkIndex_df160 : ByteArray := prog_22_method_155_code
def yJ0_checkIndex_df160 : MethodName := ⟨RJ0, "checkIndex", "(II)V"⟩
def RJ1 : String := "java/lang/StringLatin1"
def TJ1 : u_T := fun k => match k with
  | _ => ("", "", "", false)
def tyJ1 : Nat → FieldType := fun k => match k with
  | _ => .int
abbrev wsJ10 : List Cond := u_ws RJ1 TJ1 0
theorem nmJ1 : ∀ a, a < 0 → ∀ b, b < 0 → a ≠ b → (TJ1 a).2.1 ≠ (TJ1 b).2.1 := by decide +kernel
theorem tyJ1_ok : ∀ k, k < 0 → parseFieldDescriptor (TJ1 k).2.2.1 = some (tyJ1 k) := by decide +kernel
abbrev cJ1_charAt_3b067 : ByteArray := prog_23_method_2_code
def yJ1_charAt_3b067 : MethodName := ⟨RJ1, "charAt", "([BI)C"⟩
def RJ2 : String := "java/lang/StringUTF16"
def TJ2 : u_T := fun k => match k with
  | _ => ("", "", "", false)
def tyJ2 : Nat → FieldType := fun k => match k with
  | _ => .int
abbrev wsJ20 : List Cond := u_ws RJ2 TJ2 0
theorem nmJ2 : ∀ a, a < 0 → ∀ b, b < 0 → a ≠ b → (TJ2 a).2.1 ≠ (TJ2 b).2.1 := by decide +kernel
theorem tyJ2_ok : ∀ k, k < 0 → parseFieldDescriptor (TJ2 k).2.2.1 = some (tyJ2 k) := by decide +kernel
abbrev cJ2_getChar_3b067 : ByteArray := prog_24_method_5_code
def yJ2_getChar_3b067 : MethodName := ⟨RJ2, "getChar", "([BI)C"⟩
abbrev cJ2_length_9d52b : ByteArray := prog_24_method_6_code
def yJ2_length_9d52b : MethodName := ⟨RJ2, "length", "([B)I"⟩
abbrev cJ2_charAt_3b067 : ByteArray := prog_24_method_83_code
def yJ2_charAt_3b067 : MethodName := ⟨RJ2, "charAt", "([BI)C"⟩
abbrev cJ2_checkIndex_2214a : ByteArray := prog_24_method_91_code
def yJ2_checkIndex_2214a : MethodName := ⟨RJ2, "checkIndex", "(I[B)V"⟩
def RJ10 : String := "java/lang/System"
def TJ10 : u_T := fun k => match k with
  | _ => ("", "", "", false)
def tyJ10 : Nat → FieldType := fun k => match k with
  | _ => .int
abbrev wsJ100 : List Cond := u_ws RJ10 TJ10 0
theorem nmJ10 : ∀ a, a < 0 → ∀ b, b < 0 → a ≠ b → (TJ10 a).2.1 ≠ (TJ10 b).2.1 := by decide +kernel
theorem tyJ10_ok : ∀ k, k < 0 → parseFieldDescriptor (TJ10 k).2.2.1 = some (tyJ10 k) := by decide +kernel
def RJxfd54e : String := "java/lang/constant/Constable"
def TJxfd54e : u_T := fun k => match k with
  | _ => ("", "", "", false)
def tyJxfd54e : Nat → FieldType := fun k => match k with
  | _ => .int
abbrev wsJxfd54e0 : List Cond := u_ws RJxfd54e TJxfd54e 0
theorem nmJxfd54e : ∀ a, a < 0 → ∀ b, b < 0 → a ≠ b → (TJxfd54e a).2.1 ≠ (TJxfd54e b).2.1 := by decide +kernel
theorem tyJxfd54e_ok : ∀ k, k < 0 → parseFieldDescriptor (TJxfd54e k).2.2.1 = some (tyJxfd54e k) := by decide +kernel
def RJx3cf43 : String := "java/lang/constant/ConstantDesc"
def TJx3cf43 : u_T := fun k => match k with
  | _ => ("", "", "", false)
def tyJx3cf43 : Nat → FieldType := fun k => match k with
  | _ => .int
abbrev wsJx3cf430 : List Cond := u_ws RJx3cf43 TJx3cf43 0
theorem nmJx3cf43 : ∀ a, a < 0 → ∀ b, b < 0 → a ≠ b → (TJx3cf43 a).2.1 ≠ (TJx3cf43 b).2.1 := by decide +kernel
theorem tyJx3cf43_ok : ∀ k, k < 0 → parseFieldDescriptor (TJx3cf43 k).2.2.1 = some (tyJx3cf43 k) := by decide +kernel
def RJ7 : String := "java/util/Arrays"
def TJ7 : u_T := fun k => match k with
  | _ => ("", "", "", false)
def tyJ7 : Nat → FieldType := fun k => match k with
  | _ => .int
abbrev wsJ70 : List Cond := u_ws RJ7 TJ7 0
theorem nmJ7 : ∀ a, a < 0 → ∀ b, b < 0 → a ≠ b → (TJ7 a).2.1 ≠ (TJ7 b).2.1 := by decide +kernel
theorem tyJ7_ok : ∀ k, k < 0 → parseFieldDescriptor (TJ7 k).2.2.1 = some (tyJ7 k) := by decide +kernel
abbrev cJ7_fill_53178 : ByteArray := prog_29_method_103_code
def yJ7_fill_53178 : MethodName := ⟨RJ7, "fill", "([II)V"⟩
def RJ3 : String := "jdk/internal/util/Preconditions"
def TJ3 : u_T := fun k => match k with
  | _ => ("", "", "", false)
def tyJ3 : Nat → FieldType := fun k => match k with
  | _ => .int
abbrev wsJ30 : List Cond := u_ws RJ3 TJ3 0
theorem nmJ3 : ∀ a, a < 0 → ∀ b, b < 0 → a ≠ b → (TJ3 a).2.1 ≠ (TJ3 b).2.1 := by decide +kernel
theorem tyJ3_ok : ∀ k, k < 0 → parseFieldDescriptor (TJ3 k).2.2.1 = some (tyJ3 k) := by decide +kernel
abbrev cJ3_checkIndex_8e157 : ByteArray := prog_31_method_11_code
def yJ3_checkIndex_8e157 : MethodName := ⟨RJ3, "checkIndex", "(IILjava/util/function/BiFunction;)I"⟩
def RL : String := "BlockedCarsLaw"
abbrev cL_yard : ByteArray := method_3_code
def yL_yard : MethodName := ⟨RL, "yard", "(LBlockedCars;I[J)I"⟩
abbrev cL_law : ByteArray := method_4_code
def yL_law : MethodName := ⟨RL, "law", "(LBlockedCars;I[J)I"⟩
abbrev cL_work : ByteArray := method_5_code
def yL_work : MethodName := ⟨RL, "work", "(LBlockedCars;I[J)I"⟩
abbrev cL_spots : ByteArray := method_6_code
def yL_spots : MethodName := ⟨RL, "spots", "(LBlockedCars;I[J)I"⟩
abbrev cL_told : ByteArray := method_7_code
def yL_told : MethodName := ⟨RL, "told", "(LBlockedCars;I[J)I"⟩
abbrev cL_lane : ByteArray := method_8_code
def yL_lane : MethodName := ⟨RL, "lane", "(LBlockedCars;II[J)I"⟩
abbrev cL_car : ByteArray := method_9_code
def yL_car : MethodName := ⟨RL, "car", "(LBlockedCars;II[J)I"⟩
abbrev cL_on : ByteArray := method_10_code
def yL_on : MethodName := ⟨RL, "on", "(LBlockedCars;II[J)I"⟩
abbrev cL_seconds : ByteArray := method_11_code
def yL_seconds : MethodName := ⟨RL, "seconds", "(LBlockedCars;II[J)I"⟩
abbrev cL_would : ByteArray := method_12_code
def yL_would : MethodName := ⟨RL, "would", "(LBlockedCars;IIIIIIII[J)I"⟩
abbrev cL_ahead : ByteArray := method_13_code
def yL_ahead : MethodName := ⟨RL, "ahead", "(LBlockedCars;I[J)I"⟩
abbrev cL_frees : ByteArray := method_14_code
def yL_frees : MethodName := ⟨RL, "frees", "(LBlockedCars;II[J)I"⟩
abbrev cL_morning : ByteArray := method_15_code
def yL_morning : MethodName := ⟨RL, "morning", "(LBlockedCars;I[J)I"⟩
abbrev cL_corner : ByteArray := method_16_code
def yL_corner : MethodName := ⟨RL, "corner", "(LBlockedCars;I[J)I"⟩
abbrev cL_goes : ByteArray := method_17_code
def yL_goes : MethodName := ⟨RL, "goes", "(LBlockedCars;I[J)I"⟩
abbrev cL_evening : ByteArray := method_18_code
def yL_evening : MethodName := ⟨RL, "evening", "(LBlockedCars;II[J)I"⟩
abbrev cL_sure : ByteArray := method_19_code
def yL_sure : MethodName := ⟨RL, "sure", "(LBlockedCars;III[J)I"⟩
abbrev cL_leaks : ByteArray := method_20_code
def yL_leaks : MethodName := ⟨RL, "leaks", "(LBlockedCars;I[J)I"⟩
abbrev cL_look : ByteArray := method_21_code
def yL_look : MethodName := ⟨RL, "look", "(LBlockedCars;I[J)I"⟩
abbrev cL_fronts : ByteArray := method_22_code
def yL_fronts : MethodName := ⟨RL, "fronts", "(LBlockedCars;IIII[J)I"⟩
abbrev cL_pays : ByteArray := method_23_code
def yL_pays : MethodName := ⟨RL, "pays", "(LBlockedCars;III[J)I"⟩
abbrev cL_spare : ByteArray := method_24_code
def yL_spare : MethodName := ⟨RL, "spare", "(LBlockedCars;I[J)I"⟩
abbrev cL_next : ByteArray := method_25_code
def yL_next : MethodName := ⟨RL, "next", "(LBlockedCars;I[J)I"⟩
abbrev cL_most : ByteArray := method_26_code
def yL_most : MethodName := ⟨RL, "most", "(LBlockedCars;I[J)I"⟩
abbrev cL_days : ByteArray := method_27_code
def yL_days : MethodName := ⟨RL, "days", "(LBlockedCars;IIII[J)I"⟩
abbrev cL_span : ByteArray := method_28_code
def yL_span : MethodName := ⟨RL, "span", "(LBlockedCars;IIIIII[J)I"⟩
abbrev cL_law_ : ByteArray := code
def yL_law_ : MethodName := ⟨RL, "law", "([I)Z"⟩
abbrev vwCl : List vw_C := [(RX0, TX0, 4), (RX1, TX1, 4), (RX2, TX2, 2), (RX3, TX3, 3), (RX4, TX4, 7), (RX5, TX5, 12), (RX6, TX6, 5), (RX8, TX8, 8), (RX9, TX9, 11), (RX10, TX10, 16), (RX11, TX11, 53)]
end
section
/-! ===== BEGIN exceptions that leave a method, and their catching by the caller (launches without stack traces) ===== -/
section VXA
/-! The laws vx_back, vx_callV, vx_callS, vx_callSW, vx_throw0, vx_throwS follow proofs of the library, with one case more: JvmDerived/Free/Laws.lean (Back.of_free), Shelf42/LK1.lean (callV, callS), Shelf/KitTraced.lean (throwNew0V, throwNewS). -/
/-- where a method has thrown q: the class by its name, the cell, what was written, the world -/
def vx_T (XC : String → State → State → Prop) (st : State) (q : Addr) (t : State) (mc ms : Nat) (free : Addr → Prop) : Prop :=
  ∃ (E : String) (ce : Cell) (L : List Loc), XC E st t ∧ t.heap[q]? = some ce ∧ ce.vm = .none ∧ st.vm.findClass E = some ce.cls ∧ st.WarmedH t.vm ∧ st.sameButNew ({ t with vm := st.vm } : State) L mc ms ∧ ∀ z ∈ L, free z.base
def vx_Q (Qc : Array Value → State → Outcome → State → Prop) (XC : String → State → State → Prop) (mc ms : Nat) (free : Addr → Prop) : Array Value → State → Outcome → State → Prop := fun a st o t =>
  (Qc a st o t ∧ ∃ L, FrameEnd st o t L mc ms ∧ ∀ q ∈ L, free q.base) ∨ ∃ q, o = .threw q ∧ vx_T XC st q t mc ms free
/-- a callee that returns or throws -/
def vx_Met (l : Launch) (y : MethodName) (ws : List Cond) (rm : Room) (Pc : Array Value → State → Prop) (Qc : Array Value → State → Outcome → State → Prop) (XC : String → State → State → Prop) (mc ms : Nat) (free : Addr → Prop) : Prop :=
  MetFree l y (headSpec ws rm) Pc (fun _ _ _ _ _ => True) (vx_Q Qc XC mc ms free)
def vx_Post (XC : String → State → State → Prop) (mc ms : Nat) (free : Addr → Prop) : Pt → Array Value → Addr → Pt → Prop := fun A a q B =>
  ∃ (g : JFrame) (mk : MethodId) (t : State) (L : List Loc) (E : String) (ce : Cell), B.U.heap = t.heap ∧ B.U.vm = t.vm ∧ XC E (A.U.calling g mk a) t ∧ t.heap[q]? = some ce ∧ ce.vm = .none ∧ A.U.vm.findClass E = some ce.cls ∧ B.locs = A.locs ++ L ∧ (∀ z ∈ L, free z.base) ∧ B.cells = A.cells + mc ∧ B.slots = A.slots + ms
def vx_Back (l : Launch) (R : Room) (p : Program) (e : Env) (below : List Frame) (s : State) (sargs : Array Value) (y : MethodName) (len W9 : Nat)
    (Pre : Pt → Array Value → Prop) (Post : Pt → Array Value → Option Value → Pt → Prop) (PostX : Pt → Array Value → Addr → Pt → Prop) : Prop :=
  ∀ (m : MethodId) (meth : Method) (c : Code) (A : Pt) (g : JFrame) (ig : Instr) (mk : MethodId) (a : Array Value),
    Stand p l e R s m sargs below meth c A.U A.locs A.cells A.slots → g.method = m → g.locals.size = c.maxLocals → decode c.code g.pc = .ok (ig, len) →
    2 * g.monitorRoom + (g.stack.map fun v => v.category).sum ≤ W9 → A.U.methodNamed? y = some mk → Pre A a →
    (∃ (v : Option Value) (B : Pt), Stand p l e R s m sargs below meth c B.U B.locs B.cells B.slots ∧ Post A a v B ∧
      Steps p.tables e below (doInvoke e (A.U.setTop g) [] mk a).1 (B.U.setTop { g with pc := g.pc + len, stack := v.toList ++ g.stack })) ∨
    (∃ (q : Addr) (B : Pt), Stand p l e R s m sargs below meth c B.U B.locs B.cells B.slots ∧ PostX A a q B ∧
      Steps p.tables e below (doInvoke e (A.U.setTop g) [] mk a).1 ((B.U.setTop g).pushFrame (.throwing q)))
section Payer
variable {l : Launch} {R : Room} {p : Program} {e : Env} {below : List Frame} {s : State} {sargs : Array Value} {y : MethodName} {len W9 : Nat}
theorem vx_back {ws : List Cond} {rm : Room} {Pc : Array Value → State → Prop} {Qc : Array Value → State → Outcome → State → Prop} {XC : String → State → State → Prop} {mc ms : Nat} {free : Addr → Prop} {bytes : ByteArray} {maxL : Nat} {ret : Option FieldType}
    (hM : vx_Met l y ws rm Pc Qc XC mc ms free) (hblind : FrameBlind Pc) (hrc : rm.cells = mc) (hrs : rm.slots = ms)
    (hframes : rm.frames + 1 ≤ R.frames) (hlocals : W9 + (maxL + 11) + rm.locals ≤ R.locals)
    (hws : ∀ w ∈ ws, ∀ a' U, s.WarmedH U.vm → w.before a' U = true) (hcode : Cond.code y bytes maxL ret ∈ ws) (hinit : ∀ a' U, s.WarmedH U.vm → (Cond.initialized y.cls).before a' U = true) :
    vx_Back l R p e below s sargs y len W9 (PreOf R mc ms Pc) (PostOf Qc mc ms free) (vx_Post XC mc ms free) := by
  intro m meth c A g ig mk a X hg hsize hdg hW hn hp
  have h1 : (headSpec ws rm).pre.before a A.U = true := atoms_intro fun w hw => hws w hw _ _ X.warmed
  have h2 : (Cond.code y bytes maxL ret).before a A.U = true := hws _ hcode _ _ X.warmed
  have h3 : (Cond.initialized y.cls).before a A.U = true := hinit _ _ X.warmed
  have h4 : A.cells + (headSpec ws rm).room.cells ≤ R.cells := by rw [show (headSpec ws rm).room.cells = mc from hrc]; exact hp.1
  have h5 : A.slots + (headSpec ws rm).room.slots ≤ R.slots := by rw [show (headSpec ws rm).room.slots = ms from hrs]; exact hp.2.1
  have hPc : Pc a (A.U.calling g mk a) := hblind _ _ _ _ hp.2.2
  obtain ⟨U, Ls, c0, s0⟩ := A
  dsimp only [Pt.U, Pt.locs, Pt.cells, Pt.slots] at h1 h2 h3 h4 h5 X hn hPc ⊢
  obtain ⟨methY, cY, hmY, hcY, -, hlY, -, -, -, -⟩ := Cond.code_spec hn h2
  obtain ⟨kY, hkY, -⟩ := className_of_methodNamed hn
  have hinitY : kY.init = .initialized := Cond.initialized_spec (findClass_of_methodNamed hn) hkY h3
  have h : At U g.method c below := by rw [hg]; exact X.here
  have hlocals9 : W9 + (maxL + 11) + (headSpec ws rm).room.locals ≤ R.locals := hlocals
  have happ : (headSpec ws rm).appliesLoose y e.platform (U.calling g mk a) = true :=
    Spec.appliesLoose_calling (g := g) h hdg hn hkY hinitY
      (X.room_calling (g := g) (R' := (headSpec ws rm).room) hsize hmY hcY hframes (by rw [hlY]; omega) h4 h5) h1
  obtain ⟨mid, hmid⟩ := h.above
  have hfr : (U.setTop g).frames = (.java g :: mid) ++ below := by rw [State.frames_setTop' g h.top, hmid]; rfl
  obtain ⟨o, s₂, hsteps, -, hend, hq⟩ := Steps.callFree hM p X.admits X.cas X.clock (acts := []) hfr happ hPc trivial
  have hq' : vx_Q Qc XC mc ms free a (U.calling g mk a) o s₂ := hq
  rw [State.frames_setTop' g h.top] at hend
  obtain ⟨g₀, hg0⟩ := Option.isSome_iff_exists.mp h.top
  obtain ⟨r, hr⟩ := State.topJava?_eq_some.mp hg0
  have hr' : (({ U with heap := s₂.heap, slotsUsed := s₂.slotsUsed } : State).setVm s₂.vm).frames = .java g₀ :: r := hr
  rcases hq' with ⟨hqc, L, hfe, hL⟩ | ⟨q, rfl, E, ce, L, hx, hce, hcv, hcl, hW₂, hsm, hL⟩
  · obtain ⟨⟨v, rfl⟩, hW₂, e2, q2, q3, q4, q5, q6⟩ := id hfe
    have e3 : s₂ = ({ (U.calling g mk a).setFrames s₂.frames with heap := s₂.heap, slotsUsed := s₂.slotsUsed } : State).setVm s₂.vm := by
      have : s₂ = ({ s₂ with vm := (U.calling g mk a).vm } : State).setVm s₂.vm := rfl
      rw [e2] at this
      exact this
    obtain ⟨c₂, i₂, len₂, hc₂, hd₂, hf₂⟩ := hend
    have hW' : U.WarmedH s₂.vm := hW₂
    have hcc : c₂ = c := by
      have h1 : s₂.code? g.method = U.code? g.method := by
        rw [State.code?_eq, State.code?_eq, hW'.alike.method?]
      exact Option.some.inj (hc₂.symm.trans (h1.trans h.code))
    subst hcc
    have hlen : len₂ = len := by rw [hdg] at hd₂; cases hd₂; rfl
    subst hlen
    have hs₂ : s₂ = (({ U with heap := s₂.heap, slotsUsed := s₂.slotsUsed } : State).setVm s₂.vm).setTop { g with pc := g.pc + len₂, stack := v.toList ++ g.stack } := by
      refine e3.trans ?_
      rw [hf₂, State.calling_eq h.top, State.setFrames_setFrames, State.setTop_of_frames _ hr', hr]
      rfl
    have hsame : U.sameButNew ({ U with heap := s₂.heap, slotsUsed := s₂.slotsUsed } : State) L mc ms := by
      refine ⟨?_, q2, q3, q4, q5, q6⟩
      obtain ⟨t, ht, -⟩ := State.frames_cons hr
      show ({ U with heap := s₂.heap, slotsUsed := s₂.slotsUsed } : State) = { U.setFrames U.frames with heap := s₂.heap, slotsUsed := s₂.slotsUsed }
      rw [State.setFrames_self ht]
    subst hg
    refine Or.inl ⟨v, ⟨(({ U with heap := s₂.heap, slotsUsed := s₂.slotsUsed } : State).setVm s₂.vm), Ls ++ L, c0 + mc, s0 + ms⟩,
      ⟨X.admits, X.cas, X.clock, X.frames, X.room, X.hears, X.method, X.code, (X.here.setHeapUsed s₂.heap s₂.slotsUsed).setVm hW'.alike, X.tail, State.WarmedH.trans X.warmed hW', X.limits, X.bytes, X.same.trans (hsame.setVm s.vm)⟩,
      ⟨g, mk, s₂, L, rfl, rfl, hqc, rfl, hL, rfl, rfl⟩, ?_⟩
    show Steps p.tables e below _ ((({ U with heap := s₂.heap, slotsUsed := s₂.slotsUsed } : State).setVm s₂.vm).setTop { g with pc := g.pc + len₂, stack := v.toList ++ g.stack })
    rw [← hs₂]
    exact hsteps
  · obtain ⟨e2, q2, q3, q4, q5, q6⟩ := id hsm
    have e3 : s₂ = ({ (U.calling g mk a).setFrames s₂.frames with heap := s₂.heap, slotsUsed := s₂.slotsUsed } : State).setVm s₂.vm := by
      have : s₂ = ({ s₂ with vm := (U.calling g mk a).vm } : State).setVm s₂.vm := rfl
      rw [e2] at this
      exact this
    have hf₂ : s₂.frames = .throwing q :: .java g :: U.frames.tail := hend
    have hW' : U.WarmedH s₂.vm := hW₂
    have hs₂ : s₂ = ((({ U with heap := s₂.heap, slotsUsed := s₂.slotsUsed } : State).setVm s₂.vm).setTop g).pushFrame (.throwing q) := by
      refine e3.trans ?_
      rw [hf₂, State.calling_eq h.top, State.setFrames_setFrames, State.pushFrame, State.frames_setTop _ hr', State.setTop_of_frames _ hr', State.setFrames_setFrames, hr]
      rfl
    have hsame : U.sameButNew ({ U with heap := s₂.heap, slotsUsed := s₂.slotsUsed } : State) L mc ms := by
      refine ⟨?_, q2, q3, q4, q5, q6⟩
      obtain ⟨t, ht, -⟩ := State.frames_cons hr
      show ({ U with heap := s₂.heap, slotsUsed := s₂.slotsUsed } : State) = { U.setFrames U.frames with heap := s₂.heap, slotsUsed := s₂.slotsUsed }
      rw [State.setFrames_self ht]
    subst hg
    refine Or.inr ⟨q, ⟨(({ U with heap := s₂.heap, slotsUsed := s₂.slotsUsed } : State).setVm s₂.vm), Ls ++ L, c0 + mc, s0 + ms⟩,
      ⟨X.admits, X.cas, X.clock, X.frames, X.room, X.hears, X.method, X.code, (X.here.setHeapUsed s₂.heap s₂.slotsUsed).setVm hW'.alike, X.tail, State.WarmedH.trans X.warmed hW', X.limits, X.bytes, X.same.trans (hsame.setVm s.vm)⟩,
      ⟨g, mk, s₂, L, E, ce, rfl, rfl, hx, hce, hcv, hcl, rfl, hL, rfl, rfl⟩, ?_⟩
    show Steps p.tables e below _ (((({ U with heap := s₂.heap, slotsUsed := s₂.slotsUsed } : State).setVm s₂.vm).setTop g).pushFrame (.throwing q))
    rw [← hs₂]
    exact hsteps
end Payer
section Calls
variable {p : Program} {l : Launch} {e : Env} {R : Room} {s : State} {m : MethodId} {args : Array Value} {below : List Frame} {meth : Method} {c : Code} {T : State} {locs : List Loc} {cells slots : Nat}
theorem vx_callV (X : Stand p l e R s m args below meth c T locs cells slots) (hexec : p.tables.exec = Jvm.exec) {own C : String} {index : Nat} {y : MethodName} {bytes : ByteArray} {maxL : Nat} {ret : Option FieldType}
    (hown : s.vm.findClass own = some m.cls) (hlink : (Cond.methodLink own index y).before args s = true) (hinst : (Cond.instanceMethod y).before args s = true) (hsel : (Cond.selects C y y).before args s = true)
    (hcode : (Cond.code y bytes maxL ret).before args s = true) (hy : y.cls ≠ "java/lang/invoke/MethodHandle" ∧ y.cls ≠ "java/lang/invoke/VarHandle")
    {W9 : Nat} {Pre : Pt → Array Value → Prop} {Post : Pt → Array Value → Option Value → Pt → Prop} {PostX : Pt → Array Value → Addr → Pt → Prop} (hK : vx_Back l R p e below s args y 3 W9 Pre Post PostX)
    {b : Addr} {cellB : Cell} (hcell : T.heap[b]? = some cellB) (hobj : cellB.vm.isStatics = false) (hcls : s.vm.findClass C = some cellB.cls)
    {g : JFrame} (hg : g.method = m) (hsize : g.locals.size = c.maxLocals) {argsL rest : List Value} (hlen : ∀ sig, parseMethodDescriptor y.desc = some sig → argsL.length = sig.parameters.length)
    (hstack : g.stack = argsL.reverse ++ .ref b :: rest) (hW : 2 * g.monitorRoom + (rest.map fun v => v.category).sum ≤ W9) (hdg : decode c.code g.pc = .ok (.invokevirtual index, 3))
    (hpre : ∀ vm₁, s.WarmedH vm₁ → Pre ⟨T.setVm vm₁, locs, cells, slots⟩ (Value.ref b :: argsL).toArray) :
    (∃ (v : Option Value) (vm₁ : Vm) (B : Pt), s.WarmedH vm₁ ∧ Stand p l e R s m args below meth c B.U B.locs B.cells B.slots ∧ Post ⟨T.setVm vm₁, locs, cells, slots⟩ (Value.ref b :: argsL).toArray v B ∧
      ∀ target, Steps p.tables e below (B.U.setTop { g with pc := g.pc + 3, stack := v.toList ++ rest }) target → Steps p.tables e below (T.setTop g) target) ∨
    (∃ (q : Addr) (vm₁ : Vm) (B : Pt), s.WarmedH vm₁ ∧ Stand p l e R s m args below meth c B.U B.locs B.cells B.slots ∧ PostX ⟨T.setVm vm₁, locs, cells, slots⟩ (Value.ref b :: argsL).toArray q B ∧
      Steps p.tables e below (T.setTop g) ((B.U.setTop { g with stack := rest }).pushFrame (.throwing q))) := by
  obtain ⟨mk, methM, hnamed, hmethM, hstM, habM⟩ := Cond.instanceMethod_spec hinst
  obtain ⟨methM', cM, hmethM', -, -, -, -, -, -, hsigM⟩ := Cond.code_spec hnamed hcode
  cases hmethM.symm.trans hmethM'
  obtain ⟨c2, r2, m2, q1, q2, q3, q4, kP, hkP, hkPi⟩ := Cond.selects_spec hsel
  cases hcls.symm.trans q1
  cases (State.methodFound?_of_named hnamed hy).symm.trans q2
  cases hnamed.symm.trans q3
  have hselP : selectMethod e.platform s.vm cellB.cls mk = .method mk := by rw [Launch.admits_selectMethod X.admits]; exact q4
  obtain ⟨vm₁, X₁, hstep₁⟩ := X.invokevirtual hexec hown hlink hnamed hmethM hstM hkP hkPi hy (a := b) (cell := cellB) hcell
    (fun z h => by rw [h] at hobj; cases hobj) hselP hmethM habM hkP hkPi (g := g) hg (argsL := argsL) (rest := rest) (hlen _ hsigM) hstack hdg
  rcases hK m meth c ⟨T.setVm vm₁, locs, cells, slots⟩ { g with stack := rest } (.invokevirtual index) mk (Value.ref b :: argsL).toArray X₁ hg hsize hdg hW (X₁.named hnamed) (hpre vm₁ X₁.warmed) with ⟨v, B, X', hpost, hsteps⟩ | ⟨q, B, X', hpost, hsteps⟩
  · exact Or.inl ⟨v, vm₁, B, X₁.warmed, X', hpost, fun target h => hstep₁ _ fun acts => by rw [doInvoke_state]; exact hsteps.trans h⟩
  · exact Or.inr ⟨q, vm₁, B, X₁.warmed, X', hpost, hstep₁ _ fun acts => by rw [doInvoke_state]; exact hsteps⟩
theorem vx_callS (X : Stand p l e R s m args below meth c T locs cells slots) (hexec : p.tables.exec = Jvm.exec) {own : String} {index : Nat} {y : MethodName} {bytes : ByteArray} {maxL : Nat} {ret : Option FieldType}
    (hown : s.vm.findClass own = some m.cls) (hlink : (Cond.methodLink own index y).before args s = true) (hstat : (Cond.static y).before args s = true) (hinit : (Cond.initialized y.cls).before args s = true)
    (hcode : (Cond.code y bytes maxL ret).before args s = true) (hy : y.cls ≠ "java/lang/invoke/MethodHandle" ∧ y.cls ≠ "java/lang/invoke/VarHandle")
    {W9 : Nat} {Pre : Pt → Array Value → Prop} {Post : Pt → Array Value → Option Value → Pt → Prop} {PostX : Pt → Array Value → Addr → Pt → Prop} (hK : vx_Back l R p e below s args y 3 W9 Pre Post PostX)
    {g : JFrame} (hg : g.method = m) (hsize : g.locals.size = c.maxLocals) {argsL rest : List Value} (hlen : ∀ sig, parseMethodDescriptor y.desc = some sig → argsL.length = sig.parameters.length)
    (hstack : g.stack = argsL.reverse ++ rest) (hW : 2 * g.monitorRoom + (rest.map fun v => v.category).sum ≤ W9) (hdg : decode c.code g.pc = .ok (.invokestatic index, 3))
    (hpre : ∀ vm₁, s.WarmedH vm₁ → Pre ⟨T.setVm vm₁, locs, cells, slots⟩ argsL.toArray) :
    (∃ (v : Option Value) (vm₁ : Vm) (B : Pt), s.WarmedH vm₁ ∧ Stand p l e R s m args below meth c B.U B.locs B.cells B.slots ∧ Post ⟨T.setVm vm₁, locs, cells, slots⟩ argsL.toArray v B ∧
      ∀ target, Steps p.tables e below (B.U.setTop { g with pc := g.pc + 3, stack := v.toList ++ rest }) target → Steps p.tables e below (T.setTop g) target) ∨
    (∃ (q : Addr) (vm₁ : Vm) (B : Pt), s.WarmedH vm₁ ∧ Stand p l e R s m args below meth c B.U B.locs B.cells B.slots ∧ PostX ⟨T.setVm vm₁, locs, cells, slots⟩ argsL.toArray q B ∧
      Steps p.tables e below (T.setTop g) ((B.U.setTop { g with stack := rest }).pushFrame (.throwing q))) := by
  obtain ⟨mk, hnamed⟩ := Cond.code_named hcode
  obtain ⟨methM, cM, hmethM, -, -, -, -, -, -, hsigM⟩ := Cond.code_spec hnamed hcode
  have hstatic : methM.isStatic = true := Cond.static_spec hnamed hmethM hstat
  obtain ⟨kP, hkP, -⟩ := className_of_methodNamed hnamed
  have hinitP : kP.init = .initialized := Cond.initialized_spec (findClass_of_methodNamed hnamed) hkP hinit
  obtain ⟨vm₁, X₁, hstep₁⟩ := X.invokestatic hexec hown hlink hnamed hmethM hstatic hkP hinitP hy (g := g) hg (argsL := argsL) (rest := rest) (hlen _ hsigM) hstack hdg
  rcases hK m meth c ⟨T.setVm vm₁, locs, cells, slots⟩ { g with stack := rest } (.invokestatic index) mk argsL.toArray X₁ hg hsize hdg hW (X₁.named hnamed) (hpre vm₁ X₁.warmed) with ⟨v, B, X', hpost, hsteps⟩ | ⟨q, B, X', hpost, hsteps⟩
  · exact Or.inl ⟨v, vm₁, B, X₁.warmed, X', hpost, fun target h => hstep₁ _ fun acts => by rw [doInvoke_state]; exact hsteps.trans h⟩
  · exact Or.inr ⟨q, vm₁, B, X₁.warmed, X', hpost, hstep₁ _ fun acts => by rw [doInvoke_state]; exact hsteps⟩
end Calls
theorem vx_cls {s : State} {T : State} {vm₁ : Vm} {E : String} {k : ClassId} (hW : s.WarmedH vm₁) (h : (T.setVm vm₁).vm.findClass E = some k) : s.vm.findClass E = some k := by
  have h1 : vm₁.findClass E = some k := h
  rw [hW.alike.findClass] at h1
  exact h1
/-- the method's frame g, with q thrown over it -/
def vx_W (p : Program) (l : Launch) (e : Env) (R : Room) (s : State) (m : MethodId) (args : Array Value) (below : List Frame) (meth : Method) (c : Code) (H : Heap) (locs : List Loc) (cells slots : Nat) (Q : State → Prop) (g : JFrame) (q : Addr) : Prop :=
  ∀ T : State, T.heap = H → Stand p l e R s m args below meth c T locs cells slots → ∃ t, Steps p.tables e below ((T.setTop g).pushFrame (.throwing q)) t ∧ Q t
def vx_Run (p : Program) (l : Launch) (e : Env) (R : Room) (s : State) (m : MethodId) (args : Array Value) (below : List Frame) (meth : Method) (c : Code) (H : Heap) (locs : List Loc) (cells slots mc ms : Nat) (g : JFrame) (rest : List Value) (Qa : State → Outcome → State → Prop) (XC : String → State → State → Prop) (free : Addr → Prop) : Prop :=
  ∀ T : State, T.heap = H → Stand p l e R s m args below meth c T locs cells slots →
    (∃ (v : Option Value) (st₀ t T' : State) (L : List Loc), st₀.heap = H ∧ Stand p l e R s m args below meth c T' (locs ++ L) (cells + mc) (slots + ms) ∧ (∀ q ∈ L, free q.base) ∧ T'.heap = t.heap ∧ T'.vm = t.vm ∧ Qa st₀ (.returned v) t ∧
      Goes p e below T g T' { g with pc := g.pc + 3, stack := v.toList ++ rest }) ∨
    (∃ (q : Addr) (st₀ t T' : State) (L : List Loc) (E : String) (ce : Cell), st₀.heap = H ∧ Stand p l e R s m args below meth c T' (locs ++ L) (cells + mc) (slots + ms) ∧ (∀ z ∈ L, free z.base) ∧ T'.heap = t.heap ∧ T'.vm = t.vm ∧ XC E st₀ t ∧ t.heap[q]? = some ce ∧ ce.vm = .none ∧ s.vm.findClass E = some ce.cls ∧
      Steps p.tables e below (T.setTop g) ((T'.setTop { g with stack := rest }).pushFrame (.throwing q)))
def vx_X {S : Type} (px : S → Prop) (B : String → S → State → Prop) (A : Nat → Prop) : String → State → State → Prop := fun E st t => ∃ u : S, px u ∧ B E u t ∧ va_F A st t
section Runs
variable {p : Program} {l : Launch} {e : Env} {R : Room} {s : State} {m : MethodId} {args : Array Value} {below : List Frame} {meth : Method} {c : Code} {H : Heap} {locs : List Loc} {cells slots : Nat}
variable {y : MethodName} {bytes cc : ByteArray} {maxL nL mc ms n index : Nat} {ret : Option FieldType} {ws : List Cond} {rm : Room} {Pc : Array Value → State → Prop} {Qc : Array Value → State → Outcome → State → Prop} {XC : String → State → State → Prop} {free : Addr → Prop} {Ts : List Cond} {own C : String} {b : Addr} {As rest : List Value} {g : JFrame}
theorem vx_callBack (cb : CallB R s args own index y bytes maxL ret ws rm mc ms n) (hM : vx_Met l y ws rm Pc Qc XC mc ms free) (hbl : FrameBlind Pc) : vx_Back l R p e below s args y 3 8 (PreOf R mc ms Pc) (PostOf Qc mc ms free) (vx_Post XC mc ms free) := by
  obtain ⟨hrc, hrs, hfr, hlo, hws, hcw, -, hini, -⟩ := cb
  exact vx_back (bytes := bytes) (maxL := maxL) (ret := ret) hM hbl hrc hrs hfr hlo hws hcw (fun a' U hW => word_at hW (Or.inl (by first | rfl | simp [Cond.onTables, Cond.keeps, Cond.steady])) hini)
theorem vx_runV (S : CallFix p m c cc nL s args Ts own) (hM : vx_Met l y ws rm Pc Qc XC mc ms free) (cw : CallW R s args own C index y bytes maxL ret ws rm mc ms n) (hp : PreV s H C b Pc As)
    (hg : g.method = m) (hn : As.length = n) (hsize : g.locals.size = nL) (hstack : g.stack = As.reverse ++ .ref b :: rest) (hW : 2 * g.monitorRoom + (rest.map fun v => v.category).sum ≤ 8) (hdg : decode cc g.pc = .ok (.invokevirtual index, 3)) (hf : cells + mc ≤ R.cells ∧ slots + ms ≤ R.slots) :
    vx_Run p l e R s m args below meth c H locs cells slots mc ms g rest (Qc (Value.ref b :: As).toArray) XC free := by
  have hK : vx_Back l R p e below s args y 3 8 (PreOf R mc ms Pc) (PostOf Qc mc ms free) (vx_Post XC mc ms free) := vx_callBack cw.1 hM hp.1
  obtain ⟨⟨-, -, -, -, -, -, hcode, -, hy, hlen, hl⟩, hin, hse⟩ := cw
  obtain ⟨hx, hb, hml, ho, -⟩ := S
  obtain ⟨-, ⟨cellB, hcB, hoB, hclB⟩, hPc⟩ := hp
  intro T hT X
  rcases vx_callV X hx (C := C) (bytes := bytes) (maxL := maxL) (ret := ret) ho hl hin hse hcode hy hK (by rw [hT]; exact hcB) hoB hclB hg (hsize.trans hml.symm) (argsL := As) (rest := rest) (fun sig h => hn.trans (hlen sig h)) hstack hW (by rw [hb]; exact hdg)
    (fun vm₁ hW₁ => ⟨hf.1, hf.2, hPc (T.setVm vm₁) hT hW₁⟩) with ⟨v, vm₁, ⟨U', l2, c2, s2⟩, hW₁, X', ⟨g', mk, t, L, e1, e2, hq, h1, hL, h2, h3⟩, st⟩ | ⟨q, vm₁, ⟨U', l2, c2, s2⟩, hW₁, X', ⟨g', mk, t, L, E, ce, e1, e2, hq, hce, hcv, hcl, h1, hL, h2, h3⟩, st⟩
  · dsimp only [Pt.U, Pt.locs, Pt.cells, Pt.slots] at X' e1 e2 h1 h2 h3 st
    subst h1; subst h2; subst h3
    exact Or.inl ⟨v, (T.setVm vm₁).calling g' mk (Value.ref b :: As).toArray, t, U', L, hT, X', hL, e1, e2, hq, st⟩
  · dsimp only [Pt.U, Pt.locs, Pt.cells, Pt.slots] at X' e1 e2 h1 h2 h3 st hcl
    subst h1; subst h2; subst h3
    exact Or.inr ⟨q, (T.setVm vm₁).calling g' mk (Value.ref b :: As).toArray, t, U', L, E, ce, hT, X', hL, e1, e2, hq, hce, hcv, vx_cls hW₁ hcl, st⟩
theorem vx_runS (S : CallFix p m c cc nL s args Ts own) (hM : vx_Met l y ws rm Pc Qc XC mc ms free) (cw : CallB R s args own index y bytes maxL ret ws rm mc ms n ∧ (Cond.static y).before args s = true) (hp : PreS s H Pc As)
    (hg : g.method = m) (hn : As.length = n) (hsize : g.locals.size = nL) (hstack : g.stack = As.reverse ++ rest) (hW : 2 * g.monitorRoom + (rest.map fun v => v.category).sum ≤ 8) (hdg : decode cc g.pc = .ok (.invokestatic index, 3)) (hf : cells + mc ≤ R.cells ∧ slots + ms ≤ R.slots) :
    vx_Run p l e R s m args below meth c H locs cells slots mc ms g rest (Qc As.toArray) XC free := by
  have hK : vx_Back l R p e below s args y 3 8 (PreOf R mc ms Pc) (PostOf Qc mc ms free) (vx_Post XC mc ms free) := vx_callBack cw.1 hM hp.1
  obtain ⟨⟨-, -, -, -, -, -, hcode, hini, hy, hlen, hl⟩, hstt⟩ := cw
  obtain ⟨hx, hb, hml, ho, -⟩ := S
  intro T hT X
  rcases vx_callS X hx (bytes := bytes) (maxL := maxL) (ret := ret) ho hl hstt hini hcode hy hK hg (hsize.trans hml.symm) (argsL := As) (rest := rest) (fun sig h => hn.trans (hlen sig h)) hstack hW (by rw [hb]; exact hdg)
    (fun vm₁ hW₁ => ⟨hf.1, hf.2, hp.2 (T.setVm vm₁) hT hW₁⟩) with ⟨v, vm₁, ⟨U', l2, c2, s2⟩, hW₁, X', ⟨g', mk, t, L, e1, e2, hq, h1, hL, h2, h3⟩, st⟩ | ⟨q, vm₁, ⟨U', l2, c2, s2⟩, hW₁, X', ⟨g', mk, t, L, E, ce, e1, e2, hq, hce, hcv, hcl, h1, hL, h2, h3⟩, st⟩
  · dsimp only [Pt.U, Pt.locs, Pt.cells, Pt.slots] at X' e1 e2 h1 h2 h3 st
    subst h1; subst h2; subst h3
    exact Or.inl ⟨v, (T.setVm vm₁).calling g' mk As.toArray, t, U', L, hT, X', hL, e1, e2, hq, st⟩
  · dsimp only [Pt.U, Pt.locs, Pt.cells, Pt.slots] at X' e1 e2 h1 h2 h3 st hcl
    subst h1; subst h2; subst h3
    exact Or.inr ⟨q, (T.setVm vm₁).calling g' mk As.toArray, t, U', L, E, ce, hT, X', hL, e1, e2, hq, hce, hcv, vx_cls hW₁ hcl, st⟩
end Runs
section Rows
variable {p : Program} {l : Launch} {e : Env} {R : Room} {s : State} {m : MethodId} {args : Array Value} {below : List Frame} {meth : Method} {c : Code} {H : Heap} {locs : List Loc} {cells slots : Nat} {Q : State → Prop}
variable {mc ms : Nat} {free : Addr → Prop} {A0 A1 : Nat → Prop} {H0 : Heap} {a : Array Value} {pc : Nat} {ls : Array Slot} {st0 rest : List Value}
theorem vx_keep {st₀ t T' : State} {L : List Loc} (h0 : st₀.heap = H) (e1 : T'.heap = t.heap) (hS : va_S A0 H0 H locs) (hA : ∀ q, q < H.size → A1 q → A0 q) (hf : ∀ q, free q → A0 q) (hL : ∀ q ∈ L, free q.base) (hF : va_F A1 st₀ t) :
    H.size ≤ T'.heap.size ∧ (∀ q : Nat, q < H.size → ¬ A1 q → T'.heap[q]? = H[q]?) ∧ va_S A0 H0 T'.heap (locs ++ L) := by
  obtain ⟨hz, hk⟩ := hF
  rw [h0] at hz hk
  exact ⟨by rw [e1]; exact hz, fun q h1 h2 => by rw [e1]; exact hk q h1 h2,
    ⟨Nat.le_trans hS.1 (by rw [e1]; exact hz), fun q h1 h2 => by rw [e1, hk q (Nat.lt_of_lt_of_le h1 hS.1) (fun z => h2 (hA q (Nat.lt_of_lt_of_le h1 hS.1) z))]; exact hS.2.1 q h1 h2, fun q hq => by
      rcases List.mem_append.mp hq with h | h
      · exact hS.2.2 q h
      · exact hf _ (hL q h)⟩⟩
theorem vx_calli {S SX : Type} {post : Int32 → S → Prop} {px : SX → Prop} {B : S → State → Prop} {BX : String → SX → State → Prop} {AX : Nat → Prop} (hr : vx_Run p l e R s m args below meth c H locs cells slots mc ms (F0 m pc ls st0) rest (va_Qi post B A1 a) (vx_X px BX AX) free) (hS : va_S A0 H0 H locs) (hA : ∀ q, q < H.size → A1 q → A0 q) (hf : ∀ q, free q → A0 q) (hAX : ∀ q, q < H.size → AX q → A0 q)
    (kx : ∀ (E : String) (ce : Cell) (q9 : Addr) (u : SX) (t : State) (H1 : Heap) (locs1 : List Loc), t.heap = H1 → s.vm.Alike t.vm → px u → BX E u t → H.size ≤ H1.size → (∀ q : Nat, q < H.size → ¬ AX q → H1[q]? = H[q]?) → va_S A0 H0 H1 locs1 → H1[q9]? = some ce → ce.vm = .none → s.vm.findClass E = some ce.cls → vx_W p l e R s m args below meth c H1 locs1 (cells + mc) (slots + ms) Q (F0 m pc ls rest) q9)
    (kk : ∀ (r : Int32) (u : S) (t : State) (H1 : Heap) (locs1 : List Loc), t.heap = H1 → s.vm.Alike t.vm → post r u → B u t → H.size ≤ H1.size → (∀ q : Nat, q < H.size → ¬ A1 q → H1[q]? = H[q]?) → va_S A0 H0 H1 locs1 → W p l e R s m args below meth c H1 locs1 (cells + mc) (slots + ms) Q (F0 m (pc + 3) ls (.int r :: rest))) : W p l e R s m args below meth c H locs cells slots Q (F0 m pc ls st0) := by
  intro T hT X
  rcases hr T hT X with ⟨v, st₀, t, T', L, h0, X', hL, e1, e2, ⟨⟨r, u, hv, hp, hb⟩, hF⟩, st⟩ | ⟨q, st₀, t, T', L, E, ce, h0, X', hL, e1, e2, ⟨u, hp, hb, hF⟩, hce, hcv, hcl, st⟩
  · cases hv
    obtain ⟨k1, k2, k3⟩ := vx_keep h0 e1 hS hA hf hL hF
    obtain ⟨t2, a1, b1⟩ := kk r u t T'.heap (locs ++ L) e1.symm (by rw [← e2]; exact X'.warmed.alike) hp hb k1 k2 k3 T' rfl X'
    exact ⟨t2, st t2 a1, b1⟩
  · obtain ⟨k1, k2, k3⟩ := vx_keep h0 e1 hS hAX hf hL hF
    obtain ⟨t2, a1, b1⟩ := kx E ce q u t T'.heap (locs ++ L) e1.symm (by rw [← e2]; exact X'.warmed.alike) hp hb k1 k2 k3 (by rw [e1]; exact hce) hcv hcl T' rfl X'
    exact ⟨t2, st.trans a1, b1⟩
theorem vx_calll {S SX : Type} {post : Int64 → S → Prop} {px : SX → Prop} {B : S → State → Prop} {BX : String → SX → State → Prop} {AX : Nat → Prop} (hr : vx_Run p l e R s m args below meth c H locs cells slots mc ms (F0 m pc ls st0) rest (va_Ql post B A1 a) (vx_X px BX AX) free) (hS : va_S A0 H0 H locs) (hA : ∀ q, q < H.size → A1 q → A0 q) (hf : ∀ q, free q → A0 q) (hAX : ∀ q, q < H.size → AX q → A0 q)
    (kx : ∀ (E : String) (ce : Cell) (q9 : Addr) (u : SX) (t : State) (H1 : Heap) (locs1 : List Loc), t.heap = H1 → s.vm.Alike t.vm → px u → BX E u t → H.size ≤ H1.size → (∀ q : Nat, q < H.size → ¬ AX q → H1[q]? = H[q]?) → va_S A0 H0 H1 locs1 → H1[q9]? = some ce → ce.vm = .none → s.vm.findClass E = some ce.cls → vx_W p l e R s m args below meth c H1 locs1 (cells + mc) (slots + ms) Q (F0 m pc ls rest) q9)
    (kk : ∀ (r : Int64) (u : S) (t : State) (H1 : Heap) (locs1 : List Loc), t.heap = H1 → s.vm.Alike t.vm → post r u → B u t → H.size ≤ H1.size → (∀ q : Nat, q < H.size → ¬ A1 q → H1[q]? = H[q]?) → va_S A0 H0 H1 locs1 → W p l e R s m args below meth c H1 locs1 (cells + mc) (slots + ms) Q (F0 m (pc + 3) ls (.long r :: rest))) : W p l e R s m args below meth c H locs cells slots Q (F0 m pc ls st0) := by
  intro T hT X
  rcases hr T hT X with ⟨v, st₀, t, T', L, h0, X', hL, e1, e2, ⟨⟨r, u, hv, hp, hb⟩, hF⟩, st⟩ | ⟨q, st₀, t, T', L, E, ce, h0, X', hL, e1, e2, ⟨u, hp, hb, hF⟩, hce, hcv, hcl, st⟩
  · cases hv
    obtain ⟨k1, k2, k3⟩ := vx_keep h0 e1 hS hA hf hL hF
    obtain ⟨t2, a1, b1⟩ := kk r u t T'.heap (locs ++ L) e1.symm (by rw [← e2]; exact X'.warmed.alike) hp hb k1 k2 k3 T' rfl X'
    exact ⟨t2, st t2 a1, b1⟩
  · obtain ⟨k1, k2, k3⟩ := vx_keep h0 e1 hS hAX hf hL hF
    obtain ⟨t2, a1, b1⟩ := kx E ce q u t T'.heap (locs ++ L) e1.symm (by rw [← e2]; exact X'.warmed.alike) hp hb k1 k2 k3 (by rw [e1]; exact hce) hcv hcl T' rfl X'
    exact ⟨t2, st.trans a1, b1⟩
theorem vx_callf {S SX : Type} {post : UInt32 → S → Prop} {px : SX → Prop} {B : S → State → Prop} {BX : String → SX → State → Prop} {AX : Nat → Prop} (hr : vx_Run p l e R s m args below meth c H locs cells slots mc ms (F0 m pc ls st0) rest (va_Qf post B A1 a) (vx_X px BX AX) free) (hS : va_S A0 H0 H locs) (hA : ∀ q, q < H.size → A1 q → A0 q) (hf : ∀ q, free q → A0 q) (hAX : ∀ q, q < H.size → AX q → A0 q)
    (kx : ∀ (E : String) (ce : Cell) (q9 : Addr) (u : SX) (t : State) (H1 : Heap) (locs1 : List Loc), t.heap = H1 → s.vm.Alike t.vm → px u → BX E u t → H.size ≤ H1.size → (∀ q : Nat, q < H.size → ¬ AX q → H1[q]? = H[q]?) → va_S A0 H0 H1 locs1 → H1[q9]? = some ce → ce.vm = .none → s.vm.findClass E = some ce.cls → vx_W p l e R s m args below meth c H1 locs1 (cells + mc) (slots + ms) Q (F0 m pc ls rest) q9)
    (kk : ∀ (r : UInt32) (u : S) (t : State) (H1 : Heap) (locs1 : List Loc), t.heap = H1 → s.vm.Alike t.vm → post r u → B u t → H.size ≤ H1.size → (∀ q : Nat, q < H.size → ¬ A1 q → H1[q]? = H[q]?) → va_S A0 H0 H1 locs1 → W p l e R s m args below meth c H1 locs1 (cells + mc) (slots + ms) Q (F0 m (pc + 3) ls (.float r :: rest))) : W p l e R s m args below meth c H locs cells slots Q (F0 m pc ls st0) := by
  intro T hT X
  rcases hr T hT X with ⟨v, st₀, t, T', L, h0, X', hL, e1, e2, ⟨⟨r, u, hv, hp, hb⟩, hF⟩, st⟩ | ⟨q, st₀, t, T', L, E, ce, h0, X', hL, e1, e2, ⟨u, hp, hb, hF⟩, hce, hcv, hcl, st⟩
  · cases hv
    obtain ⟨k1, k2, k3⟩ := vx_keep h0 e1 hS hA hf hL hF
    obtain ⟨t2, a1, b1⟩ := kk r u t T'.heap (locs ++ L) e1.symm (by rw [← e2]; exact X'.warmed.alike) hp hb k1 k2 k3 T' rfl X'
    exact ⟨t2, st t2 a1, b1⟩
  · obtain ⟨k1, k2, k3⟩ := vx_keep h0 e1 hS hAX hf hL hF
    obtain ⟨t2, a1, b1⟩ := kx E ce q u t T'.heap (locs ++ L) e1.symm (by rw [← e2]; exact X'.warmed.alike) hp hb k1 k2 k3 (by rw [e1]; exact hce) hcv hcl T' rfl X'
    exact ⟨t2, st.trans a1, b1⟩
theorem vx_calld {S SX : Type} {post : UInt64 → S → Prop} {px : SX → Prop} {B : S → State → Prop} {BX : String → SX → State → Prop} {AX : Nat → Prop} (hr : vx_Run p l e R s m args below meth c H locs cells slots mc ms (F0 m pc ls st0) rest (va_Qd post B A1 a) (vx_X px BX AX) free) (hS : va_S A0 H0 H locs) (hA : ∀ q, q < H.size → A1 q → A0 q) (hf : ∀ q, free q → A0 q) (hAX : ∀ q, q < H.size → AX q → A0 q)
    (kx : ∀ (E : String) (ce : Cell) (q9 : Addr) (u : SX) (t : State) (H1 : Heap) (locs1 : List Loc), t.heap = H1 → s.vm.Alike t.vm → px u → BX E u t → H.size ≤ H1.size → (∀ q : Nat, q < H.size → ¬ AX q → H1[q]? = H[q]?) → va_S A0 H0 H1 locs1 → H1[q9]? = some ce → ce.vm = .none → s.vm.findClass E = some ce.cls → vx_W p l e R s m args below meth c H1 locs1 (cells + mc) (slots + ms) Q (F0 m pc ls rest) q9)
    (kk : ∀ (r : UInt64) (u : S) (t : State) (H1 : Heap) (locs1 : List Loc), t.heap = H1 → s.vm.Alike t.vm → post r u → B u t → H.size ≤ H1.size → (∀ q : Nat, q < H.size → ¬ A1 q → H1[q]? = H[q]?) → va_S A0 H0 H1 locs1 → W p l e R s m args below meth c H1 locs1 (cells + mc) (slots + ms) Q (F0 m (pc + 3) ls (.double r :: rest))) : W p l e R s m args below meth c H locs cells slots Q (F0 m pc ls st0) := by
  intro T hT X
  rcases hr T hT X with ⟨v, st₀, t, T', L, h0, X', hL, e1, e2, ⟨⟨r, u, hv, hp, hb⟩, hF⟩, st⟩ | ⟨q, st₀, t, T', L, E, ce, h0, X', hL, e1, e2, ⟨u, hp, hb, hF⟩, hce, hcv, hcl, st⟩
  · cases hv
    obtain ⟨k1, k2, k3⟩ := vx_keep h0 e1 hS hA hf hL hF
    obtain ⟨t2, a1, b1⟩ := kk r u t T'.heap (locs ++ L) e1.symm (by rw [← e2]; exact X'.warmed.alike) hp hb k1 k2 k3 T' rfl X'
    exact ⟨t2, st t2 a1, b1⟩
  · obtain ⟨k1, k2, k3⟩ := vx_keep h0 e1 hS hAX hf hL hF
    obtain ⟨t2, a1, b1⟩ := kx E ce q u t T'.heap (locs ++ L) e1.symm (by rw [← e2]; exact X'.warmed.alike) hp hb k1 k2 k3 (by rw [e1]; exact hce) hcv hcl T' rfl X'
    exact ⟨t2, st.trans a1, b1⟩
theorem vx_callv {S SX : Type} {post : S → Prop} {px : SX → Prop} {B : S → State → Prop} {BX : String → SX → State → Prop} {AX : Nat → Prop} (hr : vx_Run p l e R s m args below meth c H locs cells slots mc ms (F0 m pc ls st0) rest (va_Qv post B A1 a) (vx_X px BX AX) free) (hS : va_S A0 H0 H locs) (hA : ∀ q, q < H.size → A1 q → A0 q) (hf : ∀ q, free q → A0 q) (hAX : ∀ q, q < H.size → AX q → A0 q)
    (kx : ∀ (E : String) (ce : Cell) (q9 : Addr) (u : SX) (t : State) (H1 : Heap) (locs1 : List Loc), t.heap = H1 → s.vm.Alike t.vm → px u → BX E u t → H.size ≤ H1.size → (∀ q : Nat, q < H.size → ¬ AX q → H1[q]? = H[q]?) → va_S A0 H0 H1 locs1 → H1[q9]? = some ce → ce.vm = .none → s.vm.findClass E = some ce.cls → vx_W p l e R s m args below meth c H1 locs1 (cells + mc) (slots + ms) Q (F0 m pc ls rest) q9)
    (kk : ∀ (u : S) (t : State) (H1 : Heap) (locs1 : List Loc), t.heap = H1 → s.vm.Alike t.vm → post u → B u t → H.size ≤ H1.size → (∀ q : Nat, q < H.size → ¬ A1 q → H1[q]? = H[q]?) → va_S A0 H0 H1 locs1 → W p l e R s m args below meth c H1 locs1 (cells + mc) (slots + ms) Q (F0 m (pc + 3) ls (rest))) : W p l e R s m args below meth c H locs cells slots Q (F0 m pc ls st0) := by
  intro T hT X
  rcases hr T hT X with ⟨v, st₀, t, T', L, h0, X', hL, e1, e2, ⟨⟨u, hv, hp, hb⟩, hF⟩, st⟩ | ⟨q, st₀, t, T', L, E, ce, h0, X', hL, e1, e2, ⟨u, hp, hb, hF⟩, hce, hcv, hcl, st⟩
  · cases hv
    obtain ⟨k1, k2, k3⟩ := vx_keep h0 e1 hS hA hf hL hF
    obtain ⟨t2, a1, b1⟩ := kk u t T'.heap (locs ++ L) e1.symm (by rw [← e2]; exact X'.warmed.alike) hp hb k1 k2 k3 T' rfl X'
    exact ⟨t2, st t2 a1, b1⟩
  · obtain ⟨k1, k2, k3⟩ := vx_keep h0 e1 hS hAX hf hL hF
    obtain ⟨t2, a1, b1⟩ := kx E ce q u t T'.heap (locs ++ L) e1.symm (by rw [← e2]; exact X'.warmed.alike) hp hb k1 k2 k3 (by rw [e1]; exact hce) hcv hcl T' rfl X'
    exact ⟨t2, st.trans a1, b1⟩
/-- caught by the row x of this method's table; the rows ahead don't take it -/
theorem vx_catch {own name : String} {E : String} {ce : Cell} {q : Addr} (hown : s.vm.findClass own = some m.cls) (pre : List ExceptionTableEntry) (x : ExceptionTableEntry) (suf : List ExceptionTableEntry) (hsplit : c.exceptionTable.toList = pre ++ x :: suf)
    (hpass : ∀ z ∈ pre, covers z pc = false ∨ (z.catchType ≠ 0 ∧ ∃ nm : String, (Cond.classLink own z.catchType nm).before args s = true ∧ va_Nc E nm s)) (hx : covers x pc = true) (h0 : x.catchType ≠ 0)
    (hlink : (Cond.classLink own x.catchType name).before args s = true) (hcast : (Cond.castable E name).before args s = true) (hcell : H[q]? = some ce) (hv : ce.vm = .none) (hcl : s.vm.findClass E = some ce.cls)
    (kk : W p l e R s m args below meth c H locs cells slots Q (F0 m x.handlerPc ls [.ref q])) : vx_W p l e R s m args below meth c H locs cells slots Q (F0 m pc ls rest) q := by
  intro T hT X
  have hpl : e.platform.magicAccessors = ({} : Platform).magicAccessors := by rw [X.admits.platform]
  obtain ⟨c3, c4, hc3, hc4, hasg⟩ := Cond.castable_spec hcast
  cases Option.some.inj (hc3.symm.trans hcl)
  obtain ⟨c5, hc5, hcl5⟩ := Cond.classLink_spec hown hlink e.platform hpl
  cases Option.some.inj (hc4.symm.trans hc5)
  obtain ⟨vm', X', st⟩ := X.thenCaughtThrough q (g := F0 m pc ls rest) rfl (Steps.refl _) (by rw [hT]; exact hcell) (by rw [hv]; rfl) (by obtain ⟨k9, h9, -⟩ := Vm.findClass_spec hcl; exact ⟨k9, h9⟩) pre x suf hsplit
    (fun z hz => by
      rcases hpass z hz with h | ⟨hz0, nm, hl1, hn1⟩
      · exact Or.inl h
      · obtain ⟨c6, hc6, hcl6⟩ := Cond.classLink_spec hown hl1 e.platform hpl
        obtain ⟨a8, b8, h1, h2, h3⟩ := hn1
        cases Option.some.inj (h1.symm.trans hcl)
        cases Option.some.inj (h2.symm.trans hc6)
        exact Or.inr ⟨hz0, _, hcl6, h3⟩) hx (Or.inr ⟨h0, c4, hcl5, hasg⟩)
  obtain ⟨t, a1, b1⟩ := kk (T.setVm vm') hT X'
  exact ⟨t, st.trans a1, b1⟩
end Rows
section Ends
variable {p : Program} {l : Launch} {e : Env} {R : Room} {s : State} {m : MethodId} {args : Array Value} {below : List Frame} {meth : Method} {c : Code} {H : Heap} {locs : List Loc} {cells slots : Nat} {Q : State → Prop}
variable {mc ms : Nat} {free : Addr → Prop} {A0 A1 : Nat → Prop} {H0 : Heap} {a : Array Value} {ls : Array Slot} {st0 rest : List Value}
variable {Qc : Array Value → State → Outcome → State → Prop} {XC : String → State → State → Prop}
/-- what a body that may throw owes at its end -/
def vx_MQ (below : List Frame) (Qc : Array Value → State → Outcome → State → Prop) (XC : String → State → State → Prop) (a : Array Value) (s : State) (mc ms : Nat) (free : Addr → Prop) : State → Prop := fun t =>
  ∃ o, t.status = .running ∧ Ended t below o ∧ vx_Q Qc XC mc ms free a s o t
theorem vx_ret {g : JFrame} {mc ms : Nat} (k : W p l e R s m args below meth c H locs cells slots (MQ below Qc args s mc ms free) g) : W p l e R s m args below meth c H locs cells slots (vx_MQ below Qc XC args s mc ms free) g := by
  intro T hT X
  obtain ⟨t, a1, o, b1, b2, b3, b4⟩ := k T hT X
  exact ⟨t, a1, o, b1, b2, Or.inl ⟨b3, b4⟩⟩
/-- not caught here: it goes on to the caller -/
theorem vx_widen {g : JFrame} {q : Addr} {k n : Nat} (h1 : cells ≤ k) (h2 : slots ≤ n) (kk : vx_W p l e R s m args below meth c H locs k n Q g q) : vx_W p l e R s m args below meth c H locs cells slots Q g q := fun T hT X => kk T hT (stand_widen X h1 h2)
theorem vx_out {pc : Nat} {E : String} {ce : Cell} {q : Addr} {mc ms : Nat} (hout : ∀ x ∈ c.exceptionTable.toList, covers x pc = false) (hlocks : meth.locks = false) (hcell : H[q]? = some ce) (hv : ce.vm = .none) (hcl : s.vm.findClass E = some ce.cls)
    (hx : ∀ t : State, t.heap = H → s.vm.Alike t.vm → XC E s t) (hf : ∀ z ∈ locs, free z.base) (hc : cells ≤ mc) (hs : slots ≤ ms) :
    vx_W p l e R s m args below meth c H locs cells slots (vx_MQ below Qc XC args s mc ms free) (F0 m pc ls rest) q := by
  intro T hT X
  obtain ⟨st1, hrun, hend, hW, hsm⟩ := X.leaveThrown q (g := F0 m pc ls rest) rfl rfl rfl hout hlocks
  have hcell9 : (T.setFrames (.throwing q :: below)).heap[q]? = some ce := by
    show T.heap[q]? = some ce
    rw [hT]; exact hcell
  exact ⟨_, st1, .threw q, hrun, hend, Or.inr ⟨q, rfl, E, ce, locs, hx _ hT hW.alike, hcell9, hv, hcl, hW, hsm.mono hc hs, hf⟩⟩
theorem vx_frame {U : State} {k n : Nat} (h : s.sameButNew ({ U with vm := s.vm } : State) locs k n) : s.heap.size ≤ U.heap.size ∧ ∀ q : Nat, q < s.heap.size → (∀ z ∈ locs, z.base ≠ q) → U.heap[q]? = s.heap[q]? := by
  obtain ⟨-, h2, -, -, -, h6⟩ := h
  refine ⟨h2, fun q hq hz => ?_⟩
  obtain ⟨c9, e1, e2, e3, e4⟩ := h6 q _ (Array.getElem?_eq_getElem hq)
  have hs : c9.slots = (s.heap[q]).slots := Array.ext_getElem? fun i => e4 i fun hm => hz _ hm rfl
  have h9 : c9 = s.heap[q] := by
    rw [hs] at e2
    exact e2
  have e5 : U.heap[q]? = some c9 := e1
  rw [e5, h9, Array.getElem?_eq_getElem hq]
/-- the words of a throw but the four that speak of the heap -/
def vx_no (w : Cond) : Bool := decide (w ≠ .isRef (.static Bundle.tN "UNASSIGNED_STACK" Bundle.steD)) && decide (w ≠ .isRef (.static Bundle.tN "SUPPRESSED_SENTINEL" Bundle.listD)) && decide (w ≠ .laysStatic Bundle.tN "UNASSIGNED_STACK" Bundle.steD) && decide (w ≠ .laysStatic Bundle.tN "SUPPRESSED_SENTINEL" Bundle.listD)
def vx_at0 (own : String) (ic : Nat) (X : String) (names : List String) : List Cond := (Bundle.ownAtoms0 own ic X names).filter vx_no
def vx_atS (own : String) (ic : Nat) (X : String) (names : List String) : List Cond := (Bundle.ownAtoms own ic X names).filter vx_no
/-- a word that the tables alone decide, or a good one -/
def vx_ot (w : Cond) : Bool := w.onTables || goodWord w
theorem vx_ot_at {args a' : Array Value} {s U : State} {w : Cond} (hW : s.WarmedH U.vm) (hvm : s.vm = U.vm) (hg : vx_ot w = true) (h : w.before args s = true) : w.before a' U = true := by
  simp only [vx_ot, Bool.or_eq_true] at hg
  rcases hg with hg | hg
  · exact va_tabs hg hvm h
  · exact word_at hW (good_of_word hg) h
/-- a list's words: the good ones out of the method's own list, the others by premises of their own -/
theorem vx_hat {args : Array Value} {s : State} {L B : List Cond} (h1 : ∀ w ∈ L.filter goodWord, w.before args s = true) (h2 : ∀ w ∈ L.filter (fun w => !goodWord w), w ∈ B) (h3 : ∀ w ∈ B, w.before args s = true) : ∀ w ∈ L, w.before args s = true := by
  intro w hw
  by_cases g : goodWord w = true
  · exact h1 w (List.mem_filter.mpr ⟨hw, g⟩)
  · refine h3 w (h2 w (List.mem_filter.mpr ⟨hw, ?_⟩))
    show (!goodWord w) = true
    cases hgw : goodWord w
    · rfl
    · exact absurd hgw g
theorem vx_c {args : Array Value} {s : State} {w : Cond} {B : List Cond} (h : w.before args s = true) (t : ∀ w ∈ B, w.before args s = true) : ∀ w' ∈ w :: B, w'.before args s = true := fun w' h' => (List.mem_cons.mp h').elim (fun e => by rw [e]; exact h) (t w')
theorem vx_n {args : Array Value} {s : State} : ∀ w ∈ ([] : List Cond), w.before args s = true := fun _ h => nomatch h
theorem vx_own {args : Array Value} {s : State} {L : List Cond} (h1 : ∀ w ∈ L.filter vx_no, w.before args s = true)
    (hU : (Cond.isRef (.static Bundle.tN "UNASSIGNED_STACK" Bundle.steD)).before args s = true) (hN : (Cond.isRef (.static Bundle.tN "SUPPRESSED_SENTINEL" Bundle.listD)).before args s = true)
    (lU : (Cond.laysStatic Bundle.tN "UNASSIGNED_STACK" Bundle.steD).before args s = true) (lN : (Cond.laysStatic Bundle.tN "SUPPRESSED_SENTINEL" Bundle.listD).before args s = true) : ∀ w ∈ L, w.before args s = true := by
  intro w hw
  by_cases e1 : w = .isRef (.static Bundle.tN "UNASSIGNED_STACK" Bundle.steD)
  · rw [e1]; exact hU
  · by_cases e2 : w = .isRef (.static Bundle.tN "SUPPRESSED_SENTINEL" Bundle.listD)
    · rw [e2]; exact hN
    · by_cases e3 : w = .laysStatic Bundle.tN "UNASSIGNED_STACK" Bundle.steD
      · rw [e3]; exact lU
      · by_cases e4 : w = .laysStatic Bundle.tN "SUPPRESSED_SENTINEL" Bundle.listD
        · rw [e4]; exact lN
        · exact h1 w (List.mem_filter.mpr ⟨hw, by unfold vx_no; rw [decide_eq_true e1, decide_eq_true e2, decide_eq_true e3, decide_eq_true e4]; rfl⟩)
/-- where a static field lies, its class's statics cell in H -/
def vx_L (C n d : String) (A : Nat → Prop) (U : State) (H : Heap) : Prop := ∃ (c : ClassId) (k : Class) (i : Nat) (f : Field) (a : Nat) (cell : Cell), U.vm.findClass C = some c ∧ U.fieldFound? C n d = some (c, k, i, f) ∧ f.isStatic = true ∧ k.statics = some a ∧ H[a]? = some cell ∧ cell.vm.isStatics = true ∧ cell.cls = c ∧ f.slot < cell.slots.size ∧ k.staticTypes[f.slot]? = some f.type ∧ ¬ A a
theorem vx_L.moved {C n d : String} {A : Nat → Prop} {u U : State} {H : Heap} (hvm : u.vm.Alike U.vm) (h : vx_L C n d A u H) : vx_L C n d A U H := by
  obtain ⟨c, k, i, f, a, cell, h1, h2, h3, h4, h5, h6, h7, h8, h9, h10⟩ := h
  obtain ⟨k', hi', he⟩ := State.fieldFound?_setVm hvm h2
  exact ⟨c, k', i, f, a, cell, by rw [hvm.findClass]; exact h1, hi', h3, by rw [he]; exact h4, h5, h6, h7, h8, by rw [he]; exact h9, h10⟩
theorem vx_L.kept {C n d : String} {A : Nat → Prop} {U : State} {H H1 : Heap} (h : vx_L C n d A U H) (hq : ∀ a : Nat, a < H.size → ¬ A a → H1[a]? = H[a]?) : vx_L C n d A U H1 := by
  obtain ⟨c, k, i, f, a, cell, h1, h2, h3, h4, h5, h6, h7, h8, h9, h10⟩ := h
  exact ⟨c, k, i, f, a, cell, h1, h2, h3, h4, by rw [hq a (Array.getElem?_eq_some_iff.mp h5).1 h10]; exact h5, h6, h7, h8, h9, h10⟩
theorem vx_L.narrow {C n d : String} {A B : Nat → Prop} {U : State} {H : Heap} (h : vx_L C n d A U H) (hAB : ∀ q, B q → A q) : vx_L C n d B U H := by
  obtain ⟨c, k, i, f, a, cell, h1, h2, h3, h4, h5, h6, h7, h8, h9, h10⟩ := h
  exact ⟨c, k, i, f, a, cell, h1, h2, h3, h4, h5, h6, h7, h8, h9, fun z => h10 (hAB _ z)⟩
theorem vx_L.word {C n d : String} {A : Nat → Prop} {s : State} {args : Array Value} (h : vx_L C n d A s s.heap) : (Cond.laysStatic C n d).before args s = true := by
  obtain ⟨c, k, i, f, a, cell, h1, h2, h3, h4, h5, h6, h7, h8, h9, -⟩ := h
  show (Cond.laysStatic C n d).holds args s none s [] = true
  exact Cond.laysStatic_of h1 h2 h3 h4 h5 h6 h7 h8 h9
/-- .. and what it holds: null or some reference -/
def vx_Zq (C n d : String) (A : Nat → Prop) (U : State) (H : Heap) : Prop := va_Zq C n d A U H ∧ vx_L C n d A U H
theorem vx_Zq.moved {C n d : String} {A : Nat → Prop} {u U : State} {H : Heap} (hvm : u.vm.Alike U.vm) (h : vx_Zq C n d A u H) : vx_Zq C n d A U H := ⟨va_Zq.moved hvm h.1, vx_L.moved hvm h.2⟩
theorem vx_Zq.kept {C n d : String} {A : Nat → Prop} {U : State} {H H1 : Heap} (h : vx_Zq C n d A U H) (hq : ∀ a : Nat, a < H.size → ¬ A a → H1[a]? = H[a]?) : vx_Zq C n d A U H1 := ⟨va_Zq.kept h.1 hq, vx_L.kept h.2 hq⟩
theorem vx_Zq.narrow {C n d : String} {A B : Nat → Prop} {U : State} {H : Heap} (h : vx_Zq C n d A U H) (hAB : ∀ q, B q → A q) : vx_Zq C n d B U H := ⟨va_Zq.narrow h.1 hAB, vx_L.narrow h.2 hAB⟩
theorem vx_Zqof {args : Array Value} {s : State} {C n d : String} {A : Nat → Prop} (hl : (Cond.laysStatic C n d).before args s = true) (hini : (Cond.initialized C).before args s = true) (h : (Cond.isRef (.static C n d)).before args s = true) (hA : ∀ a : Nat, a < s.heap.size → ¬ A a) : vx_Zq C n d A s s.heap := by
  refine ⟨va_Zqof hl hini h hA, ?_⟩
  obtain ⟨c, k, i, f, a, cell, h1, h2, h3, h4, h5, h6, h7, h8, h9⟩ := Cond.laysStatic_spec hl
  exact ⟨c, k, i, f, a, cell, h1, h2, h3, h4, h5, h6, h7, h8, h9, hA a (Array.getElem?_eq_some_iff.mp h5).1⟩
theorem vx_isRef {C n d : String} {v : Value} {A : Nat → Prop} {s : State} {args : Array Value} (h : va_Z C n d v A s s.heap) (hv : v.isRef = true) : (Cond.isRef (.static C n d)).before args s = true := by
  obtain ⟨cf, kf, fi, f, a, cell, h1, h2, h3, h4, h5, h6, h7, -⟩ := h
  have he : (Term.static C n d).eval args s none [] s = some v := by
    simp [Term.eval, State.fieldNamed?, h1, h2, h4, h5, h6, h7]
  simp only [Cond.before, Cond.holds, Cond.value, he]
  cases v <;> simp_all [Value.isRef]
theorem vx_isRefq {C n d : String} {A : Nat → Prop} {s : State} {args : Array Value} (h : va_Zq C n d A s s.heap) : (Cond.isRef (.static C n d)).before args s = true := by
  rcases h with h | ⟨t, h⟩
  · exact vx_isRef h rfl
  · exact vx_isRef h rfl
/-- the same frame, seen from here: as if the method were called anew in this heap -/
theorem vx_rebase {T : State} (X : Stand p l e R s m args below meth c T locs cells slots) {R' : Room} (hf : R'.frames ≤ R.frames) (hl : R'.locals ≤ R.locals) (hc : cells + R'.cells ≤ R.cells) (hs : slots + R'.slots ≤ R.slots) :
    Stand p l e R' ((T.setVm s.vm).setFrames (.invoking m args :: below)) m args below meth c T [] 0 0 := by
  have htop : (T.setVm s.vm).topJava?.isSome := X.here.top
  have hF : ((T.setVm s.vm).setFrames (.invoking m args :: below)).frames = .invoking m args :: below := State.frames_setFrames _ (State.cur_lt_of_top htop)
  obtain ⟨g₀, hg0⟩ := Option.isSome_iff_exists.mp htop
  obtain ⟨r, hr⟩ := State.topJava?_eq_some.mp hg0
  have hl9 : e.platform.stackLimits (T.setVm s.vm).me = e.platform.stackLimits s.me := X.limits
  have hb9 : (T.setVm s.vm).me.stackBytes = s.me.stackBytes := X.bytes
  refine ⟨X.admits, X.cas, X.clock, hF, ?_, X.hears, X.method, X.code, X.here, X.tail, X.warmed, ?_, ?_, ?_⟩
  · have h := X.room
    have hU : ((T.setVm s.vm).setFrames (.invoking m args :: below)).localsInUse = s.localsInUse := by
      rw [State.localsInUse_invoking hF (meth := meth) (c := c) X.method X.code, State.localsInUse_invoking X.frames X.method X.code]
    simp only [State.hasRoom, Bool.and_eq_true, decide_eq_true_eq] at h ⊢
    obtain ⟨⟨⟨⟨h1, h2, h3, h4, h5, h6⟩, h7⟩, h8⟩, h9⟩ := h
    rw [X.frames, List.length_cons] at h2 h3
    have q1 := X.heapSize
    have q2 := X.used
    simp only [hF, hU, List.length_cons, State.stackLimits_setFrames, State.stackBytes_setFrames, hl9, hb9]
    refine ⟨⟨⟨⟨by omega, by omega, by omega, by omega, by omega, h6⟩, ?_⟩, ?_⟩, X.book⟩
    · show T.heap.size + R'.cells ≤ e.platform.maxCells
      omega
    · show T.slotsUsed + R'.slots ≤ e.platform.maxSlots
      omega
  · rw [State.stackLimits_setFrames]; rfl
  · rw [State.stackBytes_setFrames]; rfl
  · refine ⟨?_, Nat.le_refl _, Nat.le_refl _, ?_, ?_, fun a c9 h9 => ⟨c9, h9, rfl, rfl, fun _ _ => rfl⟩⟩
    · obtain ⟨t, ht, -⟩ := State.frames_cons hr
      show T.setVm s.vm = { ((T.setVm s.vm).setFrames (.invoking m args :: below)).setFrames (T.setVm s.vm).frames with heap := T.heap, slotsUsed := T.slotsUsed }
      rw [State.setFrames_setFrames, State.setFrames_self ht]
      rfl
    · show T.slotsUsed = T.slotsUsed + ((T.heap.toList.drop T.heap.size).map (·.slots.size)).sum
      rw [List.drop_eq_nil_of_le (Nat.le_of_eq Array.length_toList)]
      rfl
    · show ((T.heap.toList.drop T.heap.size).map (·.slots.size)).sum ≤ 0
      rw [List.drop_eq_nil_of_le (Nat.le_of_eq Array.length_toList)]
      exact Nat.le_refl _
/-- 'throw new E()': new; dup; invokespecial; athrow -/
theorem vx_throw0 {cc : ByteArray} {pc : Nat} (hexec : p.tables.exec = Jvm.exec) (hb : c.code = cc) (hl : l.stackTraces = false) {own cls : String} {names : List String} {ik ic mc ms : Nat} {A : Nat → Prop}
    (hown : s.vm.findClass own = some m.cls) (hcls : Bundle.fit cls = true) (hnames : ∀ n ∈ names, Bundle.fit n = true)
    (hk : (Cond.classLink own ik cls).before args s = true) (hini : (Cond.initialized cls).before args s = true) (hat : ∀ w ∈ vx_at0 own ic cls names, w.before args s = true)
    (hgood : ∀ w ∈ Cond.classLink own ik cls :: Cond.initialized cls :: vx_at0 own ic cls names, vx_ot w = true)
    (hU : vx_Zq Bundle.tN "UNASSIGNED_STACK" Bundle.steD A s s.heap) (hN : vx_Zq Bundle.tN "SUPPRESSED_SENTINEL" Bundle.listD A s s.heap) (hS : va_S A s.heap H locs) (hsize : ls.size = c.maxLocals)
    (d0 : decode cc pc = .ok (.new ik, 3)) (d3 : decode cc (pc + 3) = .ok (.dup, 1)) (d4 : decode cc (pc + 4) = .ok (.invokespecial ic, 3)) (d7 : decode cc (pc + 7) = .ok (.athrow, 1))
    (hout : ∀ x ∈ c.exceptionTable.toList, covers x (pc + 7) = false)
    (hRframes : names.length + 3 < R.frames) (hRlocals : (rest.map fun v => v.category).sum + (13 * (names.length + 1) + 42) ≤ R.locals) (hRcells : cells + 1 ≤ R.cells) (hRslots : slots + 6 ≤ R.slots) (hlocks : meth.locks = false)
    (hx : ∀ t : State, s.vm.Alike t.vm → H.size ≤ t.heap.size → (∀ q : Nat, q < H.size → t.heap[q]? = H[q]?) → XC cls s t)
    (hf : ∀ z ∈ locs, free z.base) (hc : cells + 1 ≤ mc) (hs : slots + 6 ≤ ms) :
    W p l e R s m args below meth c H locs cells slots (vx_MQ below Qc XC args s mc ms free) (F0 m pc ls rest) := by
  intro T hT X
  have htr : e.platform.stackTraces = false := (show e.platform.stackTraces = l.stackTraces by rw [X.admits.platform]).trans hl
  have Y := vx_rebase X (R' := { frames := R.frames, locals := R.locals, cells := 1, slots := 6 }) (Nat.le_refl _) (Nat.le_refl _) hRcells hRslots
  obtain ⟨s', hA⟩ : ∃ z, z = (T.setVm s.vm).setFrames (.invoking m args :: below) := ⟨_, rfl⟩
  rw [← hA] at Y
  have hvm : s'.vm = s.vm := by rw [hA]; rfl
  have hhp : s'.heap = H := by rw [hA]; exact hT
  have hW0 : s.WarmedH s'.vm := by rw [hvm]; exact State.WarmedH.refl s
  have hat' : ∀ w ∈ vx_at0 own ic cls names, w.before args s' = true := fun w hw => vx_ot_at hW0 hvm.symm (hgood w (List.mem_cons_of_mem _ (List.mem_cons_of_mem _ hw))) (hat w hw)
  have hk' : (Cond.classLink own ik cls).before args s' = true := vx_ot_at hW0 hvm.symm (hgood _ List.mem_cons_self) hk
  have hini' : (Cond.initialized cls).before args s' = true := vx_ot_at hW0 hvm.symm (hgood _ (List.mem_cons_of_mem _ List.mem_cons_self)) hini
  have hU' : vx_Zq Bundle.tN "UNASSIGNED_STACK" Bundle.steD A s' s'.heap := by rw [hhp]; exact vx_Zq.moved hW0.alike (hU.kept hS.2.1)
  have hN' : vx_Zq Bundle.tN "SUPPRESSED_SENTINEL" Bundle.listD A s' s'.heap := by rw [hhp]; exact vx_Zq.moved hW0.alike (hN.kept hS.2.1)
  have h : ∀ w ∈ Bundle.ownAtoms0 own ic cls names, w.before args s' = true := vx_own hat' (vx_isRefq hU'.1) (vx_isRefq hN'.1) hU'.2.word hN'.2.word
  have hown' : s'.vm.findClass own = some m.cls := by rw [hvm]; exact hown
  have hins : (Cond.instantiable cls 6).before args s' = true := h _ (by simp [Bundle.ownAtoms0])
  obtain ⟨vm₁, cX, kX, hfX, hkX, -, -, X₁, st1⟩ := Y.newCold hexec (own := own) (C := cls) (index := ik) (n := 6) hown' hk' hins hini'
    (g := F0 m pc ls rest) rfl (by rw [hb]; exact d0) (Nat.le_refl _) (Nat.le_refl _)
  generalize hT1 : (T.setVm vm₁).pushCell { cls := cX, slots := kX.instanceTypes.map defaultValue, vm := .none } = T1 at X₁ st1
  have hcat : (Value.ref T.heap.size).category = 1 := rfl
  have hcellA : T1.heap[T.heap.size]? = some (freshCell cX kX) := by rw [← hT1]; exact State.heap_pushCell_size _ _
  have d3' : decode c.code (pc + 3) = .ok (.dup, 1) := by rw [hb]; exact d3
  obtain ⟨U, hsteps, hrun, hend, hW, hsame, ce, hce, hO⟩ := X₁.ctorThrow0 hexec htr (own := own) (cls := cls) (names := names) (ic := ic) hown' hcls hnames h (fun x hx => nomatch hx) hfX hkX hcellA (by rw [hhp, hT]; exact Nat.le_refl _)
    (g := { method := m, pc := pc + 4, locals := ls, stack := .ref T.heap.size :: .ref T.heap.size :: rest, locked := none }) rfl hsize rfl rfl (rest := rest) rfl
    (by rw [hb]; exact d4) (by rw [hb]; exact d7) hout hRframes (by simp only [List.map_cons, List.sum_cons, hcat]; omega) hlocks
  obtain ⟨f1, f2⟩ := vx_frame hsame
  rw [hhp] at f1 f2
  have hWs : s.WarmedH U.vm := State.WarmedH.trans hW0 hW
  have hcl : s.vm.findClass cls = some ce.cls := by
    have h9 := hO.cls
    rw [hvm] at h9
    exact h9
  have hall : s.sameButNew ({ U with vm := s.vm } : State) locs mc ms := by
    subst hA
    obtain ⟨e1, e2⟩ := hsame
    rw [State.setFrames_setFrames] at e1
    have h2 : (T.setVm s.vm).sameButNew ({ U with vm := s.vm } : State) [] (0 + 1) (0 + 6) := ⟨e1, e2⟩
    have h3 := X.same.trans h2
    rw [List.append_nil] at h3
    exact h3.mono hc hs
  refine ⟨U, ?_, .threw T.heap.size, hrun, hend, Or.inr ⟨T.heap.size, rfl, cls, ce, locs, hx U hWs.alike f1 (fun q hq => f2 q hq (fun z hz => nomatch hz)), hce, hO.vm, hcl, hWs, hall, hf⟩⟩
  refine st1 _ ?_
  show Steps p.tables e below (T1.setTop { method := m, pc := pc + 3, locals := ls, stack := .ref T.heap.size :: rest, locked := none }) _
  jvm_step X₁.here [X₁.here.top, hexec, d3', Value.category]
  exact hsteps
/-- 'throw new E("text")': new; dup; ldc; invokespecial; athrow -/
theorem vx_throwS {cc : ByteArray} {pc : Nat} (hexec : p.tables.exec = Jvm.exec) (hb : c.code = cc) (hl : l.stackTraces = false) {own cls text : String} {names : List String} {ik is ic mc ms sa : Nat} {A : Nat → Prop}
    (hown : s.vm.findClass own = some m.cls) (hcls : Bundle.fit cls = true) (hnames : ∀ n ∈ names, Bundle.fit n = true)
    (hk : (Cond.classLink own ik cls).before args s = true) (hini : (Cond.initialized cls).before args s = true) (hstr : vk_R own is text sa s) (hat : ∀ w ∈ vx_atS own ic cls names, w.before args s = true)
    (hgood : ∀ w ∈ Cond.classLink own ik cls :: Cond.initialized cls :: vx_atS own ic cls names, vx_ot w = true)
    (hU : vx_Zq Bundle.tN "UNASSIGNED_STACK" Bundle.steD A s s.heap) (hN : vx_Zq Bundle.tN "SUPPRESSED_SENTINEL" Bundle.listD A s s.heap) (hS : va_S A s.heap H locs) (hsize : ls.size = c.maxLocals)
    (d0 : decode cc pc = .ok (.new ik, 3)) (d3 : decode cc (pc + 3) = .ok (.dup, 1)) (d4 : decode cc (pc + 4) = .ok (.ldc is, 2)) (d6 : decode cc (pc + 6) = .ok (.invokespecial ic, 3)) (d9 : decode cc (pc + 9) = .ok (.athrow, 1))
    (hout : ∀ x ∈ c.exceptionTable.toList, covers x (pc + 9) = false)
    (hRframes : names.length + 3 < R.frames) (hRlocals : (rest.map fun v => v.category).sum + (13 * (names.length + 1) + 43) ≤ R.locals) (hRcells : cells + 1 ≤ R.cells) (hRslots : slots + 6 ≤ R.slots) (hlocks : meth.locks = false)
    (hx : ∀ t : State, s.vm.Alike t.vm → H.size ≤ t.heap.size → (∀ q : Nat, q < H.size → t.heap[q]? = H[q]?) → XC cls s t)
    (hf : ∀ z ∈ locs, free z.base) (hc : cells + 1 ≤ mc) (hs : slots + 6 ≤ ms) :
    W p l e R s m args below meth c H locs cells slots (vx_MQ below Qc XC args s mc ms free) (F0 m pc ls rest) := by
  intro T hT X
  have htr : e.platform.stackTraces = false := (show e.platform.stackTraces = l.stackTraces by rw [X.admits.platform]).trans hl
  have Y := vx_rebase X (R' := { frames := R.frames, locals := R.locals, cells := 1, slots := 6 }) (Nat.le_refl _) (Nat.le_refl _) hRcells hRslots
  obtain ⟨s', hA⟩ : ∃ z, z = (T.setVm s.vm).setFrames (.invoking m args :: below) := ⟨_, rfl⟩
  rw [← hA] at Y
  have hvm : s'.vm = s.vm := by rw [hA]; rfl
  have hhp : s'.heap = H := by rw [hA]; exact hT
  have hW0 : s.WarmedH s'.vm := by rw [hvm]; exact State.WarmedH.refl s
  have hat' : ∀ w ∈ vx_atS own ic cls names, w.before args s' = true := fun w hw => vx_ot_at hW0 hvm.symm (hgood w (List.mem_cons_of_mem _ (List.mem_cons_of_mem _ hw))) (hat w hw)
  have hk' : (Cond.classLink own ik cls).before args s' = true := vx_ot_at hW0 hvm.symm (hgood _ List.mem_cons_self) hk
  have hini' : (Cond.initialized cls).before args s' = true := vx_ot_at hW0 hvm.symm (hgood _ (List.mem_cons_of_mem _ List.mem_cons_self)) hini
  have hU' : vx_Zq Bundle.tN "UNASSIGNED_STACK" Bundle.steD A s' s'.heap := by rw [hhp]; exact vx_Zq.moved hW0.alike (hU.kept hS.2.1)
  have hN' : vx_Zq Bundle.tN "SUPPRESSED_SENTINEL" Bundle.listD A s' s'.heap := by rw [hhp]; exact vx_Zq.moved hW0.alike (hN.kept hS.2.1)
  have h : ∀ w ∈ Bundle.ownAtoms own ic cls names, w.before args s' = true := vx_own hat' (vx_isRefq hU'.1) (vx_isRefq hN'.1) hU'.2.word hN'.2.word
  have hown' : s'.vm.findClass own = some m.cls := by rw [hvm]; exact hown
  have hins : (Cond.instantiable cls 6).before args s' = true := h _ (by simp [Bundle.ownAtoms])
  obtain ⟨vm₁, cX, kX, hfX, hkX, -, -, X₁, st1⟩ := Y.newCold hexec (own := own) (C := cls) (index := ik) (n := 6) hown' hk' hins hini'
    (g := F0 m pc ls rest) rfl (by rw [hb]; exact d0) (Nat.le_refl _) (Nat.le_refl _)
  generalize hT1 : (T.setVm vm₁).pushCell { cls := cX, slots := kX.instanceTypes.map defaultValue, vm := .none } = T1 at X₁ st1
  have hcat : (Value.ref T.heap.size).category = 1 := rfl
  have hcellA : T1.heap[T.heap.size]? = some (freshCell cX kX) := by rw [← hT1]; exact State.heap_pushCell_size _ _
  have d3' : decode c.code (pc + 3) = .ok (.dup, 1) := by rw [hb]; exact d3
  have d4' : decode c.code (pc + 4) = .ok (.ldc is, 2) := by rw [hb]; exact d4
  have hstr' : vk_R own is text sa s' := vk_R.warm hW0 hstr
  obtain ⟨U, hsteps, hrun, hend, hW, hsame, ce, hce, hO⟩ := X₁.ctorThrowS hexec htr (own := own) (cls := cls) (names := names) (ic := ic) hown' hcls hnames h (fun x hx => nomatch hx) hfX hkX hcellA (by rw [hhp, hT]; exact Nat.le_refl _) (msg := .ref sa) rfl
    (g := { method := m, pc := pc + 6, locals := ls, stack := .ref sa :: .ref T.heap.size :: .ref T.heap.size :: rest, locked := none }) rfl hsize rfl rfl (rest := rest) rfl
    (by rw [hb]; exact d6) (by rw [hb]; exact d9) hout hRframes (by simp only [List.map_cons, List.sum_cons, hcat]; omega) hlocks
  obtain ⟨f1, f2⟩ := vx_frame hsame
  rw [hhp] at f1 f2
  have hWs : s.WarmedH U.vm := State.WarmedH.trans hW0 hW
  have hcl : s.vm.findClass cls = some ce.cls := by
    have h9 := hO.cls
    rw [hvm] at h9
    exact h9
  have hall : s.sameButNew ({ U with vm := s.vm } : State) locs mc ms := by
    subst hA
    obtain ⟨e1, e2⟩ := hsame
    rw [State.setFrames_setFrames] at e1
    have h2 : (T.setVm s.vm).sameButNew ({ U with vm := s.vm } : State) [] (0 + 1) (0 + 6) := ⟨e1, e2⟩
    have h3 := X.same.trans h2
    rw [List.append_nil] at h3
    exact h3.mono hc hs
  refine ⟨U, ?_, .threw T.heap.size, hrun, hend, Or.inr ⟨T.heap.size, rfl, cls, ce, locs, hx U hWs.alike f1 (fun q hq => f2 q hq (fun z hz => nomatch hz)), hce, hO.vm, hcl, hWs, hall, hf⟩⟩
  refine st1 _ ?_
  show Steps p.tables e below (T1.setTop { method := m, pc := pc + 3, locals := ls, stack := .ref T.heap.size :: rest, locked := none }) _
  jvm_step X₁.here [X₁.here.top, hexec, d3', Value.category]
  exact X₁.ldcString hexec (own := own) (text := text) (index := is) (a := sa) hown' hstr'.1 hstr'.2
    (g := { method := m, pc := pc + 4, locals := ls, stack := .ref T.heap.size :: .ref T.heap.size :: rest, locked := none }) rfl d4' _ hsteps
/-- 'throw new E("text")', the text by a wide index -/
theorem vx_throwSW {cc : ByteArray} {pc : Nat} (hexec : p.tables.exec = Jvm.exec) (hb : c.code = cc) (hl : l.stackTraces = false) {own cls text : String} {names : List String} {ik is ic mc ms sa : Nat} {A : Nat → Prop}
    (hown : s.vm.findClass own = some m.cls) (hcls : Bundle.fit cls = true) (hnames : ∀ n ∈ names, Bundle.fit n = true)
    (hk : (Cond.classLink own ik cls).before args s = true) (hini : (Cond.initialized cls).before args s = true) (hstr : vk_R own is text sa s) (hat : ∀ w ∈ vx_atS own ic cls names, w.before args s = true)
    (hgood : ∀ w ∈ Cond.classLink own ik cls :: Cond.initialized cls :: vx_atS own ic cls names, vx_ot w = true)
    (hU : vx_Zq Bundle.tN "UNASSIGNED_STACK" Bundle.steD A s s.heap) (hN : vx_Zq Bundle.tN "SUPPRESSED_SENTINEL" Bundle.listD A s s.heap) (hS : va_S A s.heap H locs) (hsize : ls.size = c.maxLocals)
    (d0 : decode cc pc = .ok (.new ik, 3)) (d3 : decode cc (pc + 3) = .ok (.dup, 1)) (d4 : decode cc (pc + 4) = .ok (.ldc_w is, 3)) (d7 : decode cc (pc + 7) = .ok (.invokespecial ic, 3)) (d10 : decode cc (pc + 10) = .ok (.athrow, 1))
    (hout : ∀ x ∈ c.exceptionTable.toList, covers x (pc + 10) = false)
    (hRframes : names.length + 3 < R.frames) (hRlocals : (rest.map fun v => v.category).sum + (13 * (names.length + 1) + 43) ≤ R.locals) (hRcells : cells + 1 ≤ R.cells) (hRslots : slots + 6 ≤ R.slots) (hlocks : meth.locks = false)
    (hx : ∀ t : State, s.vm.Alike t.vm → H.size ≤ t.heap.size → (∀ q : Nat, q < H.size → t.heap[q]? = H[q]?) → XC cls s t)
    (hf : ∀ z ∈ locs, free z.base) (hc : cells + 1 ≤ mc) (hs : slots + 6 ≤ ms) :
    W p l e R s m args below meth c H locs cells slots (vx_MQ below Qc XC args s mc ms free) (F0 m pc ls rest) := by
  intro T hT X
  have htr : e.platform.stackTraces = false := (show e.platform.stackTraces = l.stackTraces by rw [X.admits.platform]).trans hl
  have Y := vx_rebase X (R' := { frames := R.frames, locals := R.locals, cells := 1, slots := 6 }) (Nat.le_refl _) (Nat.le_refl _) hRcells hRslots
  obtain ⟨s', hA⟩ : ∃ z, z = (T.setVm s.vm).setFrames (.invoking m args :: below) := ⟨_, rfl⟩
  rw [← hA] at Y
  have hvm : s'.vm = s.vm := by rw [hA]; rfl
  have hhp : s'.heap = H := by rw [hA]; exact hT
  have hW0 : s.WarmedH s'.vm := by rw [hvm]; exact State.WarmedH.refl s
  have hat' : ∀ w ∈ vx_atS own ic cls names, w.before args s' = true := fun w hw => vx_ot_at hW0 hvm.symm (hgood w (List.mem_cons_of_mem _ (List.mem_cons_of_mem _ hw))) (hat w hw)
  have hk' : (Cond.classLink own ik cls).before args s' = true := vx_ot_at hW0 hvm.symm (hgood _ List.mem_cons_self) hk
  have hini' : (Cond.initialized cls).before args s' = true := vx_ot_at hW0 hvm.symm (hgood _ (List.mem_cons_of_mem _ List.mem_cons_self)) hini
  have hU' : vx_Zq Bundle.tN "UNASSIGNED_STACK" Bundle.steD A s' s'.heap := by rw [hhp]; exact vx_Zq.moved hW0.alike (hU.kept hS.2.1)
  have hN' : vx_Zq Bundle.tN "SUPPRESSED_SENTINEL" Bundle.listD A s' s'.heap := by rw [hhp]; exact vx_Zq.moved hW0.alike (hN.kept hS.2.1)
  have h : ∀ w ∈ Bundle.ownAtoms own ic cls names, w.before args s' = true := vx_own hat' (vx_isRefq hU'.1) (vx_isRefq hN'.1) hU'.2.word hN'.2.word
  have hown' : s'.vm.findClass own = some m.cls := by rw [hvm]; exact hown
  have hins : (Cond.instantiable cls 6).before args s' = true := h _ (by simp [Bundle.ownAtoms])
  obtain ⟨vm₁, cX, kX, hfX, hkX, -, -, X₁, st1⟩ := Y.newCold hexec (own := own) (C := cls) (index := ik) (n := 6) hown' hk' hins hini'
    (g := F0 m pc ls rest) rfl (by rw [hb]; exact d0) (Nat.le_refl _) (Nat.le_refl _)
  generalize hT1 : (T.setVm vm₁).pushCell { cls := cX, slots := kX.instanceTypes.map defaultValue, vm := .none } = T1 at X₁ st1
  have hcat : (Value.ref T.heap.size).category = 1 := rfl
  have hcellA : T1.heap[T.heap.size]? = some (freshCell cX kX) := by rw [← hT1]; exact State.heap_pushCell_size _ _
  have d3' : decode c.code (pc + 3) = .ok (.dup, 1) := by rw [hb]; exact d3
  have d4' : decode c.code (pc + 4) = .ok (.ldc_w is, 3) := by rw [hb]; exact d4
  have hstr' : vk_R own is text sa s' := vk_R.warm hW0 hstr
  obtain ⟨U, hsteps, hrun, hend, hW, hsame, ce, hce, hO⟩ := X₁.ctorThrowS hexec htr (own := own) (cls := cls) (names := names) (ic := ic) hown' hcls hnames h (fun x hx => nomatch hx) hfX hkX hcellA (by rw [hhp, hT]; exact Nat.le_refl _) (msg := .ref sa) rfl
    (g := { method := m, pc := pc + 7, locals := ls, stack := .ref sa :: .ref T.heap.size :: .ref T.heap.size :: rest, locked := none }) rfl hsize rfl rfl (rest := rest) rfl
    (by rw [hb]; exact d7) (by rw [hb]; exact d10) hout hRframes (by simp only [List.map_cons, List.sum_cons, hcat]; omega) hlocks
  obtain ⟨f1, f2⟩ := vx_frame hsame
  rw [hhp] at f1 f2
  have hWs : s.WarmedH U.vm := State.WarmedH.trans hW0 hW
  have hcl : s.vm.findClass cls = some ce.cls := by
    have h9 := hO.cls
    rw [hvm] at h9
    exact h9
  have hall : s.sameButNew ({ U with vm := s.vm } : State) locs mc ms := by
    subst hA
    obtain ⟨e1, e2⟩ := hsame
    rw [State.setFrames_setFrames] at e1
    have h2 : (T.setVm s.vm).sameButNew ({ U with vm := s.vm } : State) [] (0 + 1) (0 + 6) := ⟨e1, e2⟩
    have h3 := X.same.trans h2
    rw [List.append_nil] at h3
    exact h3.mono hc hs
  refine ⟨U, ?_, .threw T.heap.size, hrun, hend, Or.inr ⟨T.heap.size, rfl, cls, ce, locs, hx U hWs.alike f1 (fun q hq => f2 q hq (fun z hz => nomatch hz)), hce, hO.vm, hcl, hWs, hall, hf⟩⟩
  refine st1 _ ?_
  show Steps p.tables e below (T1.setTop { method := m, pc := pc + 3, locals := ls, stack := .ref T.heap.size :: rest, locked := none }) _
  jvm_step X₁.here [X₁.here.top, hexec, d3', Value.category]
  exact X₁.ldcStringW hexec (own := own) (text := text) (index := is) (a := sa) hown' hstr'.1 hstr'.2
    (g := { method := m, pc := pc + 4, locals := ls, stack := .ref T.heap.size :: .ref T.heap.size :: rest, locked := none }) rfl d4' _ hsteps
end Ends
section Bodies
variable {l : Launch}
theorem vx_ofW {y : MethodName} {ws ws' : List Cond} {rm : Room} {Pc : Array Value → State → Prop} {Qc : Array Value → State → Outcome → State → Prop} {XC : String → State → State → Prop} {mc ms : Nat} {free : Addr → Prop} {cc : ByteArray} {maxL : Nat} {ret : Option FieldType}
    (hy : plainName y.cls = true) (hw : ws = Cond.code y cc maxL ret :: ws')
    (body : ∀ p e s m args below meth c s₁, BodyLoose p l y (headSpec ws rm) cc maxL ret e s m args below meth c s₁ → c.maxLocals = maxL → (∀ x ∈ c.exceptionTable.toList, False) → Pc args s →
      W p l e (headSpec ws rm).room s m args below meth c s.heap [] 0 0 (vx_MQ below Qc XC args s mc ms free) (entryFrame m args maxL)) : vx_Met l y ws rm Pc Qc XC mc ms free := by
  refine MetFree.of_bodyS (code := cc) (maxLocals := maxL) (ret := ret) hy ?_ ?_
  · intro args s m h hn
    obtain ⟨meth, c, h1, h2, h3, h4, h5, h6, -, -⟩ := Cond.code_spec hn (atoms_spec (ws := ws) h _ (by rw [hw]; exact List.mem_cons_self))
    exact ⟨meth, c, h1, h2, h3, h4, h5, h6⟩
  · intro p e s m args below meth c s₁ B hml hP _
    have hh0 : s₁.heap = s.heap := by rw [B.state]; rfl
    have ht : ∀ x ∈ c.exceptionTable.toList, False := by
      obtain ⟨meth9, c9, h1, h2, -, -, -, -, h7, -⟩ := Cond.code_spec B.named (atoms_spec (ws := ws) B.pre _ (by rw [hw]; exact List.mem_cons_self))
      cases Option.some.inj (h1.symm.trans B.method)
      cases Option.some.inj (h2.symm.trans (Stand.of_body B).code)
      intro x hx
      rw [Array.isEmpty_iff.mp h7] at hx
      cases hx
    obtain ⟨t, a1, o, b1, b2, b3⟩ := body p e s m args below meth c s₁ B hml ht hP s₁ hh0 (Stand.of_body B)
    exact ⟨t, o, a1, b1, b2, b3⟩
/-- the table of a body with handlers -/
theorem vx_table {p : Program} {x y : MethodName} {S : Spec} {cc bytes : ByteArray} {maxL maxL' : Nat} {ret ret' : Option FieldType} {e : Env} {s s₁ : State} {m : MethodId} {args : Array Value} {below : List Frame} {meth : Method} {c : Code} {hh : List (Nat × Nat × Nat × Nat)}
    (B : BodyLoose p l y S cc maxL ret e s m args below meth c s₁) (h : (Cond.codeWith y bytes maxL' ret' hh).before args s = true) : c.exceptionTable.toList = tableOf hh := by
  obtain ⟨m9, meth9, c9, hn9, h1, h2, -, -, h6, -⟩ := Cond.codeWith_spec h
  cases Option.some.inj (hn9.symm.trans B.named)
  cases Option.some.inj (h1.symm.trans B.method)
  cases Option.some.inj (h2.symm.trans (Stand.of_body B).code)
  rw [← h6, table_eq]
end Bodies
end VXA
/-! ===== END ===== -/
/-! ===== BEGIN a static call of a method with an exception table ===== -/
section VXS
variable {p : Program} {l : Launch} {e : Env} {R : Room} {s : State} {m : MethodId} {args : Array Value} {below : List Frame} {meth : Method} {c : Code} {T : State} {H : Heap} {locs : List Loc} {cells slots : Nat}
abbrev vx_CSW (R : Room) (s : State) (args : Array Value) (own : String) (index : Nat) (y : MethodName) (bytes : ByteArray) (maxL : Nat) (ret : Option FieldType) (hh : List (Nat × Nat × Nat × Nat)) (ws : List Cond) (rm : Room) (mc ms n : Nat) : Prop :=
  (rm.cells = mc ∧ rm.slots = ms ∧ rm.frames + 1 ≤ R.frames ∧ 8 + (maxL + 11) + rm.locals ≤ R.locals ∧ (∀ w ∈ ws, ∀ (a' : Array Value) (U : State), s.WarmedH U.vm → w.before a' U = true) ∧ Cond.codeWith y bytes maxL ret hh ∈ ws) ∧
  (Cond.codeWith y bytes maxL ret hh).before args s = true ∧ (Cond.initialized y.cls).before args s = true ∧ (y.cls ≠ "java/lang/invoke/MethodHandle" ∧ y.cls ≠ "java/lang/invoke/VarHandle") ∧
  (∀ sig, parseMethodDescriptor y.desc = some sig → n = sig.parameters.length) ∧ (Cond.methodLink own index y).before args s = true ∧ (Cond.static y).before args s = true
theorem vx_cwSW {own : String} {index maxL mc ms : Nat} {y : MethodName} {bytes : ByteArray} {ret : Option FieldType} {hh : List (Nat × Nat × Nat × Nat)} {Ts ws ws' : List Cond} {rm : Room} (n : Nat) (ht : ∀ w ∈ Ts, w.before args s = true) (hT : GoodIn Ts (va_wsS own index y ws)) (hw : ws = Cond.codeWith y bytes maxL ret hh :: ws') (hrc : rm.cells = mc) (hrs : rm.slots = ms)
    (hd : y.cls ≠ "java/lang/invoke/MethodHandle" ∧ y.cls ≠ "java/lang/invoke/VarHandle" ∧ (parseMethodDescriptor y.desc).map (fun d => d.parameters.length) = some n) (hR : rm.frames + 1 ≤ R.frames ∧ 8 + (maxL + 11) + rm.locals ≤ R.locals) :
    vx_CSW R s args own index y bytes maxL ret hh ws rm mc ms n := by
  have ok : ∀ w ∈ va_wsS own index y ws, w.before args s = true := fun w h => ht w (hT w h).1
  have hG : GoodIn Ts ws := fun w h => hT w (by unfold va_wsS; exact List.mem_append_right _ h)
  have hc : Cond.codeWith y bytes maxL ret hh ∈ ws := by rw [hw]; exact List.mem_cons_self
  refine ⟨⟨hrc, hrs, hR.1, hR.2, pay_in ht hG, hc⟩, ht _ (hG _ hc).1, ok _ (by simp [va_wsS]), ⟨hd.1, hd.2.1⟩, fun sig h => ?_, ok _ (by simp [va_wsS]), ok _ (by simp [va_wsS])⟩
  have h2 := hd.2.2
  rw [h] at h2
  exact (Option.some.inj h2).symm
theorem vx_callSW (X : Stand p l e R s m args below meth c T locs cells slots) (hexec : p.tables.exec = Jvm.exec) {own : String} {index : Nat} {y : MethodName} {bytes : ByteArray} {maxL : Nat} {ret : Option FieldType} {hh : List (Nat × Nat × Nat × Nat)}
    (hown : s.vm.findClass own = some m.cls) (hlink : (Cond.methodLink own index y).before args s = true) (hstat : (Cond.static y).before args s = true) (hinit : (Cond.initialized y.cls).before args s = true)
    (hcode : (Cond.codeWith y bytes maxL ret hh).before args s = true) (hy : y.cls ≠ "java/lang/invoke/MethodHandle" ∧ y.cls ≠ "java/lang/invoke/VarHandle")
    {W9 : Nat} {Pre : Pt → Array Value → Prop} {Post : Pt → Array Value → Option Value → Pt → Prop} (hK : Back l R p e below s args y 3 W9 Pre Post)
    {g : JFrame} (hg : g.method = m) (hsize : g.locals.size = c.maxLocals) {argsL rest : List Value} (hlen : ∀ sig, parseMethodDescriptor y.desc = some sig → argsL.length = sig.parameters.length)
    (hstack : g.stack = argsL.reverse ++ rest) (hW : 2 * g.monitorRoom + (rest.map fun v => v.category).sum ≤ W9) (hdg : decode c.code g.pc = .ok (.invokestatic index, 3))
    (hpre : ∀ vm₁, s.WarmedH vm₁ → Pre ⟨T.setVm vm₁, locs, cells, slots⟩ argsL.toArray) :
    ∃ (v : Option Value) (vm₁ : Vm) (B : Pt), s.WarmedH vm₁ ∧ Stand p l e R s m args below meth c B.U B.locs B.cells B.slots ∧ Post ⟨T.setVm vm₁, locs, cells, slots⟩ argsL.toArray v B ∧
      ∀ target, Steps p.tables e below (B.U.setTop { g with pc := g.pc + 3, stack := v.toList ++ rest }) target → Steps p.tables e below (T.setTop g) target := by
  obtain ⟨mk, methM, cM, hnamed, hmethM, -, -, -, -, -, -, hsigM⟩ := Cond.codeWith_spec hcode
  have hstatic : methM.isStatic = true := Cond.static_spec hnamed hmethM hstat
  obtain ⟨kP, hkP, -⟩ := className_of_methodNamed hnamed
  have hinitP : kP.init = .initialized := Cond.initialized_spec (findClass_of_methodNamed hnamed) hkP hinit
  obtain ⟨vm₁, X₁, hstep₁⟩ := X.invokestatic hexec hown hlink hnamed hmethM hstatic hkP hinitP hy (g := g) hg (argsL := argsL) (rest := rest) (hlen _ hsigM) hstack hdg
  obtain ⟨v, B, X', hpost, hsteps⟩ := hK m meth c ⟨T.setVm vm₁, locs, cells, slots⟩ { g with stack := rest } (.invokestatic index) mk argsL.toArray X₁ hg hsize hdg hW (X₁.named hnamed) (hpre vm₁ X₁.warmed)
  exact ⟨v, vm₁, B, X₁.warmed, X', hpost, fun target h => hstep₁ _ fun acts => by rw [doInvoke_state]; exact hsteps.trans h⟩
theorem vx_runSW {y : MethodName} {bytes cc : ByteArray} {maxL nL mc ms n index : Nat} {ret : Option FieldType} {hh : List (Nat × Nat × Nat × Nat)} {ws : List Cond} {rm : Room} {Pc : Array Value → State → Prop} {Qc : Array Value → State → Outcome → State → Prop} {free : Addr → Prop} {Ts : List Cond} {own : String} {As rest : List Value} {g : JFrame}
    (S : CallFix p m c cc nL s args Ts own) (hM : Met l y ws rm Pc Qc mc ms free) (cw : vx_CSW R s args own index y bytes maxL ret hh ws rm mc ms n) (hp : PreS s H Pc As)
    (hg : g.method = m) (hn : As.length = n) (hsize : g.locals.size = nL) (hstack : g.stack = As.reverse ++ rest) (hW : 2 * g.monitorRoom + (rest.map fun v => v.category).sum ≤ 8) (hdg : decode cc g.pc = .ok (.invokestatic index, 3)) (hf : cells + mc ≤ R.cells ∧ slots + ms ≤ R.slots) :
    va_Run p l e R s m args below meth c H locs cells slots mc ms g rest (Qc As.toArray) (free) := by
  obtain ⟨⟨hrc, hrs, hfr, hlo, hws, hcw⟩, hcode, hini, hy, hlen, hl, hstt⟩ := cw
  have hK : Back l R p e below s args y 3 8 (PreOf R mc ms Pc) (PostOf Qc mc ms free) := va_backW (hh := hh) (bytes := bytes) (maxL := maxL) (ret := ret) hM hp.1 hrc hrs hfr hlo hws hcw (fun a' U hW => word_at hW (Or.inl (by first | rfl | simp [Cond.onTables, Cond.keeps, Cond.steady])) hini)
  obtain ⟨hx, hb, hml, ho, -⟩ := S
  intro T hT X
  obtain ⟨v, vm₁, ⟨U', l2, c2, s2⟩, hW₁, X', ⟨g', mk, t, L, e1, e2, hq, h1, hL, h2, h3⟩, st⟩ := vx_callSW X hx (hh := hh) (bytes := bytes) (maxL := maxL) (ret := ret) ho hl hstt hini hcode hy hK hg (hsize.trans hml.symm) (argsL := As) (rest := rest) (fun sig h => hn.trans (hlen sig h)) hstack hW (by rw [hb]; exact hdg)
    (fun vm₁ hW₁ => ⟨hf.1, hf.2, hp.2 (T.setVm vm₁) hT hW₁⟩)
  dsimp only [Pt.U, Pt.locs, Pt.cells, Pt.slots] at X' e1 e2 h1 h2 h3 st
  subst h1; subst h2; subst h3
  exact ⟨v, (T.setVm vm₁).calling g' mk As.toArray, t, U', L, hT, X', hL, e1, e2, hq, st⟩
/-- not caught here, past rows that name other classes: it goes on to the caller -/
theorem vx_outP {p : Program} {l : Launch} {e : Env} {R : Room} {s : State} {m : MethodId} {args : Array Value} {below : List Frame} {meth : Method} {c : Code} {H : Heap} {locs : List Loc} {cells slots : Nat} {free : Addr → Prop} {ls : Array Slot} {rest : List Value} {Qc : Array Value → State → Outcome → State → Prop} {XC : String → State → State → Prop}
    {pc : Nat} {own E : String} {ce : Cell} {q : Addr} {mc ms : Nat} (hown : s.vm.findClass own = some m.cls) (hlocks : meth.locks = false)
    (hpass : ∀ z ∈ c.exceptionTable.toList, covers z pc = false ∨ (z.catchType ≠ 0 ∧ ∃ nm : String, (Cond.classLink own z.catchType nm).before args s = true ∧ va_Nc E nm s)) (hcell : H[q]? = some ce) (hv : ce.vm = .none) (hcl : s.vm.findClass E = some ce.cls)
    (hx : ∀ t : State, t.heap = H → s.vm.Alike t.vm → XC E s t) (hf : ∀ z ∈ locs, free z.base) (hc : cells ≤ mc) (hs : slots ≤ ms) :
    vx_W p l e R s m args below meth c H locs cells slots (vx_MQ below Qc XC args s mc ms free) (F0 m pc ls rest) q := by
  intro T hT X
  have hpl : e.platform.magicAccessors = ({} : Platform).magicAccessors := by rw [X.admits.platform]
  obtain ⟨vm', hW', X', st⟩ := X.outThrough hlocks q (g := F0 m pc ls rest) rfl rfl rfl (cell := ce) (by rw [hT]; exact hcell) (by rw [hv]; rfl)
    (by obtain ⟨k9, h9, -⟩ := Vm.findClass_spec hcl; exact ⟨k9, h9⟩) (fun z hz => by
      rcases hpass z hz with h | ⟨hz0, nm, hl1, hn1⟩
      · exact Or.inl h
      · obtain ⟨c6, hc6, hcl6⟩ := Cond.classLink_spec hown hl1 e.platform hpl
        obtain ⟨a8, b8, h1, h2, h3⟩ := hn1
        cases Option.some.inj (h1.symm.trans hcl)
        cases Option.some.inj (h2.symm.trans hc6)
        exact Or.inr ⟨hz0, _, hcl6, h3⟩)
  obtain ⟨g₀, hfr⟩ := X'.frames_eq
  have hcell9 : ((T.setVm vm').setFrames (.throwing q :: below)).heap[q]? = some ce := by
    show T.heap[q]? = some ce
    rw [hT]; exact hcell
  have hend : Ended ((T.setVm vm').setFrames (.throwing q :: below)) below (.threw q) := State.frames_setFrames _ (State.cur_lt_of_frames hfr)
  refine ⟨(T.setVm vm').setFrames (.throwing q :: below), ?_, .threw q, X'.here.running, hend, Or.inr ⟨q, rfl, E, ce, locs, hx _ hT (X'.ends _).1.alike, hcell9, hv, hcl, (X'.ends _).1, (X'.ends _).2.mono hc hs, hf⟩⟩
  rw [X.pushThrowing_eq]
  exact st
/-- a thing of a world lies in the heap -/
theorem vx_lt {D : va_G} {cl : List vw_C} {ws : va_W} {H1 : Heap} (h : va_P D cl ws H1) {k : Nat} {q : Nat × va_E} (hk : ws[k]? = some q) : q.1 < H1.size := (h k q hk).lt
end VXS
/-! ===== END ===== -/
/-! ===== BEGIN methods with a table of their own: called by a name, returning or throwing ===== -/
section VXH
/-! vx_backW, vx_callVX, vx_callSX, vx_callVW, vx_runVW, vx_runVX, vx_runSX, vx_ofWH follow the same proofs as their sisters above (Free/Laws.lean, Shelf42/LK1.lean); vx_outP calls Shelf42/NT130.lean (outThrough). -/
section
variable {l : Launch} {R : Room} {p : Program} {e : Env} {below : List Frame} {s : State} {sargs : Array Value} {y : MethodName} {len W9 : Nat}
theorem vx_backW {ws : List Cond} {rm : Room} {Pc : Array Value → State → Prop} {Qc : Array Value → State → Outcome → State → Prop} {XC : String → State → State → Prop} {mc ms : Nat} {free : Addr → Prop} {bytes : ByteArray} {maxL : Nat} {ret : Option FieldType} {hh : List (Nat × Nat × Nat × Nat)}
    (hM : vx_Met l y ws rm Pc Qc XC mc ms free) (hblind : FrameBlind Pc) (hrc : rm.cells = mc) (hrs : rm.slots = ms)
    (hframes : rm.frames + 1 ≤ R.frames) (hlocals : W9 + (maxL + 11) + rm.locals ≤ R.locals)
    (hws : ∀ w ∈ ws, ∀ a' U, s.WarmedH U.vm → w.before a' U = true) (hcode : Cond.codeWith y bytes maxL ret hh ∈ ws) (hinit : ∀ a' U, s.WarmedH U.vm → (Cond.initialized y.cls).before a' U = true) :
    vx_Back l R p e below s sargs y len W9 (PreOf R mc ms Pc) (PostOf Qc mc ms free) (vx_Post XC mc ms free) := by
  intro m meth c A g ig mk a X hg hsize hdg hW hn hp
  have h1 : (headSpec ws rm).pre.before a A.U = true := atoms_intro fun w hw => hws w hw _ _ X.warmed
  have h2 : (Cond.codeWith y bytes maxL ret hh).before a A.U = true := hws _ hcode _ _ X.warmed
  have h3 : (Cond.initialized y.cls).before a A.U = true := hinit _ _ X.warmed
  have h4 : A.cells + (headSpec ws rm).room.cells ≤ R.cells := by rw [show (headSpec ws rm).room.cells = mc from hrc]; exact hp.1
  have h5 : A.slots + (headSpec ws rm).room.slots ≤ R.slots := by rw [show (headSpec ws rm).room.slots = ms from hrs]; exact hp.2.1
  have hPc : Pc a (A.U.calling g mk a) := hblind _ _ _ _ hp.2.2
  obtain ⟨U, Ls, c0, s0⟩ := A
  dsimp only [Pt.U, Pt.locs, Pt.cells, Pt.slots] at h1 h2 h3 h4 h5 X hn hPc ⊢
  obtain ⟨m9, methY, cY, hn9, hmY, hcY, -, hlY, -⟩ := Cond.codeWith_spec h2
  cases Option.some.inj (hn9.symm.trans hn)
  obtain ⟨kY, hkY, -⟩ := className_of_methodNamed hn
  have hinitY : kY.init = .initialized := Cond.initialized_spec (findClass_of_methodNamed hn) hkY h3
  have h : At U g.method c below := by rw [hg]; exact X.here
  have hlocals9 : W9 + (maxL + 11) + (headSpec ws rm).room.locals ≤ R.locals := hlocals
  have happ : (headSpec ws rm).appliesLoose y e.platform (U.calling g mk a) = true :=
    Spec.appliesLoose_calling (g := g) h hdg hn hkY hinitY
      (X.room_calling (g := g) (R' := (headSpec ws rm).room) hsize hmY hcY hframes (by rw [hlY]; omega) h4 h5) h1
  obtain ⟨mid, hmid⟩ := h.above
  have hfr : (U.setTop g).frames = (.java g :: mid) ++ below := by rw [State.frames_setTop' g h.top, hmid]; rfl
  obtain ⟨o, s₂, hsteps, -, hend, hq⟩ := Steps.callFree hM p X.admits X.cas X.clock (acts := []) hfr happ hPc trivial
  have hq' : vx_Q Qc XC mc ms free a (U.calling g mk a) o s₂ := hq
  rw [State.frames_setTop' g h.top] at hend
  obtain ⟨g₀, hg0⟩ := Option.isSome_iff_exists.mp h.top
  obtain ⟨r, hr⟩ := State.topJava?_eq_some.mp hg0
  have hr' : (({ U with heap := s₂.heap, slotsUsed := s₂.slotsUsed } : State).setVm s₂.vm).frames = .java g₀ :: r := hr
  rcases hq' with ⟨hqc, L, hfe, hL⟩ | ⟨q, rfl, E, ce, L, hx, hce, hcv, hcl, hW₂, hsm, hL⟩
  · obtain ⟨⟨v, rfl⟩, hW₂, e2, q2, q3, q4, q5, q6⟩ := id hfe
    have e3 : s₂ = ({ (U.calling g mk a).setFrames s₂.frames with heap := s₂.heap, slotsUsed := s₂.slotsUsed } : State).setVm s₂.vm := by
      have : s₂ = ({ s₂ with vm := (U.calling g mk a).vm } : State).setVm s₂.vm := rfl
      rw [e2] at this
      exact this
    obtain ⟨c₂, i₂, len₂, hc₂, hd₂, hf₂⟩ := hend
    have hW' : U.WarmedH s₂.vm := hW₂
    have hcc : c₂ = c := by
      have h1 : s₂.code? g.method = U.code? g.method := by
        rw [State.code?_eq, State.code?_eq, hW'.alike.method?]
      exact Option.some.inj (hc₂.symm.trans (h1.trans h.code))
    subst hcc
    have hlen : len₂ = len := by rw [hdg] at hd₂; cases hd₂; rfl
    subst hlen
    have hs₂ : s₂ = (({ U with heap := s₂.heap, slotsUsed := s₂.slotsUsed } : State).setVm s₂.vm).setTop { g with pc := g.pc + len₂, stack := v.toList ++ g.stack } := by
      refine e3.trans ?_
      rw [hf₂, State.calling_eq h.top, State.setFrames_setFrames, State.setTop_of_frames _ hr', hr]
      rfl
    have hsame : U.sameButNew ({ U with heap := s₂.heap, slotsUsed := s₂.slotsUsed } : State) L mc ms := by
      refine ⟨?_, q2, q3, q4, q5, q6⟩
      obtain ⟨t, ht, -⟩ := State.frames_cons hr
      show ({ U with heap := s₂.heap, slotsUsed := s₂.slotsUsed } : State) = { U.setFrames U.frames with heap := s₂.heap, slotsUsed := s₂.slotsUsed }
      rw [State.setFrames_self ht]
    subst hg
    refine Or.inl ⟨v, ⟨(({ U with heap := s₂.heap, slotsUsed := s₂.slotsUsed } : State).setVm s₂.vm), Ls ++ L, c0 + mc, s0 + ms⟩,
      ⟨X.admits, X.cas, X.clock, X.frames, X.room, X.hears, X.method, X.code, (X.here.setHeapUsed s₂.heap s₂.slotsUsed).setVm hW'.alike, X.tail, State.WarmedH.trans X.warmed hW', X.limits, X.bytes, X.same.trans (hsame.setVm s.vm)⟩,
      ⟨g, mk, s₂, L, rfl, rfl, hqc, rfl, hL, rfl, rfl⟩, ?_⟩
    show Steps p.tables e below _ ((({ U with heap := s₂.heap, slotsUsed := s₂.slotsUsed } : State).setVm s₂.vm).setTop { g with pc := g.pc + len₂, stack := v.toList ++ g.stack })
    rw [← hs₂]
    exact hsteps
  · obtain ⟨e2, q2, q3, q4, q5, q6⟩ := id hsm
    have e3 : s₂ = ({ (U.calling g mk a).setFrames s₂.frames with heap := s₂.heap, slotsUsed := s₂.slotsUsed } : State).setVm s₂.vm := by
      have : s₂ = ({ s₂ with vm := (U.calling g mk a).vm } : State).setVm s₂.vm := rfl
      rw [e2] at this
      exact this
    have hf₂ : s₂.frames = .throwing q :: .java g :: U.frames.tail := hend
    have hW' : U.WarmedH s₂.vm := hW₂
    have hs₂ : s₂ = ((({ U with heap := s₂.heap, slotsUsed := s₂.slotsUsed } : State).setVm s₂.vm).setTop g).pushFrame (.throwing q) := by
      refine e3.trans ?_
      rw [hf₂, State.calling_eq h.top, State.setFrames_setFrames, State.pushFrame, State.frames_setTop _ hr', State.setTop_of_frames _ hr', State.setFrames_setFrames, hr]
      rfl
    have hsame : U.sameButNew ({ U with heap := s₂.heap, slotsUsed := s₂.slotsUsed } : State) L mc ms := by
      refine ⟨?_, q2, q3, q4, q5, q6⟩
      obtain ⟨t, ht, -⟩ := State.frames_cons hr
      show ({ U with heap := s₂.heap, slotsUsed := s₂.slotsUsed } : State) = { U.setFrames U.frames with heap := s₂.heap, slotsUsed := s₂.slotsUsed }
      rw [State.setFrames_self ht]
    subst hg
    refine Or.inr ⟨q, ⟨(({ U with heap := s₂.heap, slotsUsed := s₂.slotsUsed } : State).setVm s₂.vm), Ls ++ L, c0 + mc, s0 + ms⟩,
      ⟨X.admits, X.cas, X.clock, X.frames, X.room, X.hears, X.method, X.code, (X.here.setHeapUsed s₂.heap s₂.slotsUsed).setVm hW'.alike, X.tail, State.WarmedH.trans X.warmed hW', X.limits, X.bytes, X.same.trans (hsame.setVm s.vm)⟩,
      ⟨g, mk, s₂, L, E, ce, rfl, rfl, hx, hce, hcv, hcl, rfl, hL, rfl, rfl⟩, ?_⟩
    show Steps p.tables e below _ (((({ U with heap := s₂.heap, slotsUsed := s₂.slotsUsed } : State).setVm s₂.vm).setTop g).pushFrame (.throwing q))
    rw [← hs₂]
    exact hsteps
end
variable {p : Program} {l : Launch} {e : Env} {R : Room} {s : State} {m : MethodId} {args : Array Value} {below : List Frame} {meth : Method} {c : Code} {T : State} {H : Heap} {locs : List Loc} {cells slots : Nat}
theorem vx_callVX (X : Stand p l e R s m args below meth c T locs cells slots) (hexec : p.tables.exec = Jvm.exec) {own C : String} {index : Nat} {y : MethodName} {bytes : ByteArray} {maxL : Nat} {ret : Option FieldType} {hh : List (Nat × Nat × Nat × Nat)}
    (hown : s.vm.findClass own = some m.cls) (hlink : (Cond.methodLink own index y).before args s = true) (hinst : (Cond.instanceMethod y).before args s = true) (hsel : (Cond.selects C y y).before args s = true)
    (hcode : (Cond.codeWith y bytes maxL ret hh).before args s = true) (hy : y.cls ≠ "java/lang/invoke/MethodHandle" ∧ y.cls ≠ "java/lang/invoke/VarHandle")
    {W9 : Nat} {Pre : Pt → Array Value → Prop} {Post : Pt → Array Value → Option Value → Pt → Prop} {PostX : Pt → Array Value → Addr → Pt → Prop} (hK : vx_Back l R p e below s args y 3 W9 Pre Post PostX)
    {b : Addr} {cellB : Cell} (hcell : T.heap[b]? = some cellB) (hobj : cellB.vm.isStatics = false) (hcls : s.vm.findClass C = some cellB.cls)
    {g : JFrame} (hg : g.method = m) (hsize : g.locals.size = c.maxLocals) {argsL rest : List Value} (hlen : ∀ sig, parseMethodDescriptor y.desc = some sig → argsL.length = sig.parameters.length)
    (hstack : g.stack = argsL.reverse ++ .ref b :: rest) (hW : 2 * g.monitorRoom + (rest.map fun v => v.category).sum ≤ W9) (hdg : decode c.code g.pc = .ok (.invokevirtual index, 3))
    (hpre : ∀ vm₁, s.WarmedH vm₁ → Pre ⟨T.setVm vm₁, locs, cells, slots⟩ (Value.ref b :: argsL).toArray) :
    (∃ (v : Option Value) (vm₁ : Vm) (B : Pt), s.WarmedH vm₁ ∧ Stand p l e R s m args below meth c B.U B.locs B.cells B.slots ∧ Post ⟨T.setVm vm₁, locs, cells, slots⟩ (Value.ref b :: argsL).toArray v B ∧
      ∀ target, Steps p.tables e below (B.U.setTop { g with pc := g.pc + 3, stack := v.toList ++ rest }) target → Steps p.tables e below (T.setTop g) target) ∨
    (∃ (q : Addr) (vm₁ : Vm) (B : Pt), s.WarmedH vm₁ ∧ Stand p l e R s m args below meth c B.U B.locs B.cells B.slots ∧ PostX ⟨T.setVm vm₁, locs, cells, slots⟩ (Value.ref b :: argsL).toArray q B ∧
      Steps p.tables e below (T.setTop g) ((B.U.setTop { g with stack := rest }).pushFrame (.throwing q))) := by
  obtain ⟨mk, methM, hnamed, hmethM, hstM, habM⟩ := Cond.instanceMethod_spec hinst
  obtain ⟨m8, methM', cM, hn8, hmethM', -, -, -, -, -, -, hsigM⟩ := Cond.codeWith_spec hcode
  cases Option.some.inj (hn8.symm.trans hnamed)
  cases hmethM.symm.trans hmethM'
  obtain ⟨c2, r2, m2, q1, q2, q3, q4, kP, hkP, hkPi⟩ := Cond.selects_spec hsel
  cases hcls.symm.trans q1
  cases (State.methodFound?_of_named hnamed hy).symm.trans q2
  cases hnamed.symm.trans q3
  have hselP : selectMethod e.platform s.vm cellB.cls mk = .method mk := by rw [Launch.admits_selectMethod X.admits]; exact q4
  obtain ⟨vm₁, X₁, hstep₁⟩ := X.invokevirtual hexec hown hlink hnamed hmethM hstM hkP hkPi hy (a := b) (cell := cellB) hcell
    (fun z h => by rw [h] at hobj; cases hobj) hselP hmethM habM hkP hkPi (g := g) hg (argsL := argsL) (rest := rest) (hlen _ hsigM) hstack hdg
  rcases hK m meth c ⟨T.setVm vm₁, locs, cells, slots⟩ { g with stack := rest } (.invokevirtual index) mk (Value.ref b :: argsL).toArray X₁ hg hsize hdg hW (X₁.named hnamed) (hpre vm₁ X₁.warmed) with ⟨v, B, X', hpost, hsteps⟩ | ⟨q, B, X', hpost, hsteps⟩
  · exact Or.inl ⟨v, vm₁, B, X₁.warmed, X', hpost, fun target h => hstep₁ _ fun acts => by rw [doInvoke_state]; exact hsteps.trans h⟩
  · exact Or.inr ⟨q, vm₁, B, X₁.warmed, X', hpost, hstep₁ _ fun acts => by rw [doInvoke_state]; exact hsteps⟩
theorem vx_callSX (X : Stand p l e R s m args below meth c T locs cells slots) (hexec : p.tables.exec = Jvm.exec) {own : String} {index : Nat} {y : MethodName} {bytes : ByteArray} {maxL : Nat} {ret : Option FieldType} {hh : List (Nat × Nat × Nat × Nat)}
    (hown : s.vm.findClass own = some m.cls) (hlink : (Cond.methodLink own index y).before args s = true) (hstat : (Cond.static y).before args s = true) (hinit : (Cond.initialized y.cls).before args s = true)
    (hcode : (Cond.codeWith y bytes maxL ret hh).before args s = true) (hy : y.cls ≠ "java/lang/invoke/MethodHandle" ∧ y.cls ≠ "java/lang/invoke/VarHandle")
    {W9 : Nat} {Pre : Pt → Array Value → Prop} {Post : Pt → Array Value → Option Value → Pt → Prop} {PostX : Pt → Array Value → Addr → Pt → Prop} (hK : vx_Back l R p e below s args y 3 W9 Pre Post PostX)
    {g : JFrame} (hg : g.method = m) (hsize : g.locals.size = c.maxLocals) {argsL rest : List Value} (hlen : ∀ sig, parseMethodDescriptor y.desc = some sig → argsL.length = sig.parameters.length)
    (hstack : g.stack = argsL.reverse ++ rest) (hW : 2 * g.monitorRoom + (rest.map fun v => v.category).sum ≤ W9) (hdg : decode c.code g.pc = .ok (.invokestatic index, 3))
    (hpre : ∀ vm₁, s.WarmedH vm₁ → Pre ⟨T.setVm vm₁, locs, cells, slots⟩ argsL.toArray) :
    (∃ (v : Option Value) (vm₁ : Vm) (B : Pt), s.WarmedH vm₁ ∧ Stand p l e R s m args below meth c B.U B.locs B.cells B.slots ∧ Post ⟨T.setVm vm₁, locs, cells, slots⟩ argsL.toArray v B ∧
      ∀ target, Steps p.tables e below (B.U.setTop { g with pc := g.pc + 3, stack := v.toList ++ rest }) target → Steps p.tables e below (T.setTop g) target) ∨
    (∃ (q : Addr) (vm₁ : Vm) (B : Pt), s.WarmedH vm₁ ∧ Stand p l e R s m args below meth c B.U B.locs B.cells B.slots ∧ PostX ⟨T.setVm vm₁, locs, cells, slots⟩ argsL.toArray q B ∧
      Steps p.tables e below (T.setTop g) ((B.U.setTop { g with stack := rest }).pushFrame (.throwing q))) := by
  obtain ⟨mk, methM, cM, hnamed, hmethM, -, -, -, -, -, -, hsigM⟩ := Cond.codeWith_spec hcode
  have hstatic : methM.isStatic = true := Cond.static_spec hnamed hmethM hstat
  obtain ⟨kP, hkP, -⟩ := className_of_methodNamed hnamed
  have hinitP : kP.init = .initialized := Cond.initialized_spec (findClass_of_methodNamed hnamed) hkP hinit
  obtain ⟨vm₁, X₁, hstep₁⟩ := X.invokestatic hexec hown hlink hnamed hmethM hstatic hkP hinitP hy (g := g) hg (argsL := argsL) (rest := rest) (hlen _ hsigM) hstack hdg
  rcases hK m meth c ⟨T.setVm vm₁, locs, cells, slots⟩ { g with stack := rest } (.invokestatic index) mk argsL.toArray X₁ hg hsize hdg hW (X₁.named hnamed) (hpre vm₁ X₁.warmed) with ⟨v, B, X', hpost, hsteps⟩ | ⟨q, B, X', hpost, hsteps⟩
  · exact Or.inl ⟨v, vm₁, B, X₁.warmed, X', hpost, fun target h => hstep₁ _ fun acts => by rw [doInvoke_state]; exact hsteps.trans h⟩
  · exact Or.inr ⟨q, vm₁, B, X₁.warmed, X', hpost, hstep₁ _ fun acts => by rw [doInvoke_state]; exact hsteps⟩
theorem vx_callVW (X : Stand p l e R s m args below meth c T locs cells slots) (hexec : p.tables.exec = Jvm.exec) {own C : String} {index : Nat} {y : MethodName} {bytes : ByteArray} {maxL : Nat} {ret : Option FieldType} {hh : List (Nat × Nat × Nat × Nat)}
    (hown : s.vm.findClass own = some m.cls) (hlink : (Cond.methodLink own index y).before args s = true) (hinst : (Cond.instanceMethod y).before args s = true) (hsel : (Cond.selects C y y).before args s = true)
    (hcode : (Cond.codeWith y bytes maxL ret hh).before args s = true) (hy : y.cls ≠ "java/lang/invoke/MethodHandle" ∧ y.cls ≠ "java/lang/invoke/VarHandle")
    {W9 : Nat} {Pre : Pt → Array Value → Prop} {Post : Pt → Array Value → Option Value → Pt → Prop} (hK : Back l R p e below s args y 3 W9 Pre Post)
    {b : Addr} {cellB : Cell} (hcell : T.heap[b]? = some cellB) (hobj : cellB.vm.isStatics = false) (hcls : s.vm.findClass C = some cellB.cls)
    {g : JFrame} (hg : g.method = m) (hsize : g.locals.size = c.maxLocals) {argsL rest : List Value} (hlen : ∀ sig, parseMethodDescriptor y.desc = some sig → argsL.length = sig.parameters.length)
    (hstack : g.stack = argsL.reverse ++ .ref b :: rest) (hW : 2 * g.monitorRoom + (rest.map fun v => v.category).sum ≤ W9) (hdg : decode c.code g.pc = .ok (.invokevirtual index, 3))
    (hpre : ∀ vm₁, s.WarmedH vm₁ → Pre ⟨T.setVm vm₁, locs, cells, slots⟩ (Value.ref b :: argsL).toArray) :
    ∃ (v : Option Value) (vm₁ : Vm) (B : Pt), s.WarmedH vm₁ ∧ Stand p l e R s m args below meth c B.U B.locs B.cells B.slots ∧ Post ⟨T.setVm vm₁, locs, cells, slots⟩ (Value.ref b :: argsL).toArray v B ∧
      ∀ target, Steps p.tables e below (B.U.setTop { g with pc := g.pc + 3, stack := v.toList ++ rest }) target → Steps p.tables e below (T.setTop g) target := by
  obtain ⟨mk, methM, hnamed, hmethM, hstM, habM⟩ := Cond.instanceMethod_spec hinst
  obtain ⟨m8, methM', cM, hn8, hmethM', -, -, -, -, -, -, hsigM⟩ := Cond.codeWith_spec hcode
  cases Option.some.inj (hn8.symm.trans hnamed)
  cases hmethM.symm.trans hmethM'
  obtain ⟨c2, r2, m2, q1, q2, q3, q4, kP, hkP, hkPi⟩ := Cond.selects_spec hsel
  cases hcls.symm.trans q1
  cases (State.methodFound?_of_named hnamed hy).symm.trans q2
  cases hnamed.symm.trans q3
  have hselP : selectMethod e.platform s.vm cellB.cls mk = .method mk := by rw [Launch.admits_selectMethod X.admits]; exact q4
  obtain ⟨vm₁, X₁, hstep₁⟩ := X.invokevirtual hexec hown hlink hnamed hmethM hstM hkP hkPi hy (a := b) (cell := cellB) hcell
    (fun z h => by rw [h] at hobj; cases hobj) hselP hmethM habM hkP hkPi (g := g) hg (argsL := argsL) (rest := rest) (hlen _ hsigM) hstack hdg
  obtain ⟨v, B, X', hpost, hsteps⟩ := hK m meth c ⟨T.setVm vm₁, locs, cells, slots⟩ { g with stack := rest } (.invokevirtual index) mk (Value.ref b :: argsL).toArray X₁ hg hsize hdg hW (X₁.named hnamed) (hpre vm₁ X₁.warmed)
  exact ⟨v, vm₁, B, X₁.warmed, X', hpost, fun target h => hstep₁ _ fun acts => by rw [doInvoke_state]; exact hsteps.trans h⟩
abbrev vx_CVW (R : Room) (s : State) (args : Array Value) (own C : String) (index : Nat) (y : MethodName) (bytes : ByteArray) (maxL : Nat) (ret : Option FieldType) (hh : List (Nat × Nat × Nat × Nat)) (ws : List Cond) (rm : Room) (mc ms n : Nat) : Prop :=
  (rm.cells = mc ∧ rm.slots = ms ∧ rm.frames + 1 ≤ R.frames ∧ 8 + (maxL + 11) + rm.locals ≤ R.locals ∧ (∀ w ∈ ws, ∀ (a' : Array Value) (U : State), s.WarmedH U.vm → w.before a' U = true) ∧ Cond.codeWith y bytes maxL ret hh ∈ ws) ∧
  (Cond.codeWith y bytes maxL ret hh).before args s = true ∧ (Cond.initialized y.cls).before args s = true ∧ (y.cls ≠ "java/lang/invoke/MethodHandle" ∧ y.cls ≠ "java/lang/invoke/VarHandle") ∧
  (∀ sig, parseMethodDescriptor y.desc = some sig → n = sig.parameters.length) ∧ (Cond.methodLink own index y).before args s = true ∧ (Cond.instanceMethod y).before args s = true ∧ (Cond.selects C y y).before args s = true
theorem vx_cwVW {own C : String} {index maxL mc ms : Nat} {y : MethodName} {bytes : ByteArray} {ret : Option FieldType} {hh : List (Nat × Nat × Nat × Nat)} {Ts ws ws' : List Cond} {rm : Room} (n : Nat) (ht : ∀ w ∈ Ts, w.before args s = true) (hT : GoodIn Ts (wsV own index C y ws)) (hw : ws = Cond.codeWith y bytes maxL ret hh :: ws') (hrc : rm.cells = mc) (hrs : rm.slots = ms)
    (hd : y.cls = C ∧ y.cls ≠ "java/lang/invoke/MethodHandle" ∧ y.cls ≠ "java/lang/invoke/VarHandle" ∧ (parseMethodDescriptor y.desc).map (fun d => d.parameters.length) = some n) (hR : rm.frames + 1 ≤ R.frames ∧ 8 + (maxL + 11) + rm.locals ≤ R.locals) :
    vx_CVW R s args own C index y bytes maxL ret hh ws rm mc ms n := by
  obtain ⟨hC, hd⟩ := hd
  subst hC
  have ok : ∀ w ∈ wsV own index y.cls y ws, w.before args s = true := fun w h => ht w (hT w h).1
  have hG : GoodIn Ts ws := fun w h => hT w (by unfold wsV; exact List.mem_append_right _ h)
  have hc : Cond.codeWith y bytes maxL ret hh ∈ ws := by rw [hw]; exact List.mem_cons_self
  refine ⟨⟨hrc, hrs, hR.1, hR.2, pay_in ht hG, hc⟩, ht _ (hG _ hc).1, ok _ (by simp [wsV]), ⟨hd.1, hd.2.1⟩, fun sig h => ?_, ok _ (by simp [wsV]), ok _ (by simp [wsV]), ok _ (by simp [wsV])⟩
  have h2 := hd.2.2
  rw [h] at h2
  exact (Option.some.inj h2).symm
theorem vx_runVW {y : MethodName} {bytes cc : ByteArray} {maxL nL mc ms n index : Nat} {ret : Option FieldType} {hh : List (Nat × Nat × Nat × Nat)} {ws : List Cond} {rm : Room} {Pc : Array Value → State → Prop} {Qc : Array Value → State → Outcome → State → Prop} {free : Addr → Prop} {Ts : List Cond} {own C : String} {b : Addr} {As rest : List Value} {g : JFrame}
    (S : CallFix p m c cc nL s args Ts own) (hM : Met l y ws rm Pc Qc mc ms free) (cw : vx_CVW R s args own C index y bytes maxL ret hh ws rm mc ms n) (hp : PreV s H C b Pc As)
    (hg : g.method = m) (hn : As.length = n) (hsize : g.locals.size = nL) (hstack : g.stack = As.reverse ++ .ref b :: rest) (hW : 2 * g.monitorRoom + (rest.map fun v => v.category).sum ≤ 8) (hdg : decode cc g.pc = .ok (.invokevirtual index, 3)) (hf : cells + mc ≤ R.cells ∧ slots + ms ≤ R.slots) :
    va_Run p l e R s m args below meth c H locs cells slots mc ms g rest (Qc (Value.ref b :: As).toArray) free := by
  obtain ⟨⟨hrc, hrs, hfr, hlo, hws, hcw⟩, hcode, hini, hy, hlen, hl, hin, hse⟩ := cw
  have hK : Back l R p e below s args y 3 8 (PreOf R mc ms Pc) (PostOf Qc mc ms free) := va_backW (hh := hh) (bytes := bytes) (maxL := maxL) (ret := ret) hM hp.1 hrc hrs hfr hlo hws hcw (fun a' U hW => word_at hW (Or.inl (by first | rfl | simp [Cond.onTables, Cond.keeps, Cond.steady])) hini)
  obtain ⟨hx, hb, hml, ho, -⟩ := S
  obtain ⟨-, ⟨cellB, hcB, hoB, hclB⟩, hPc⟩ := hp
  intro T hT X
  obtain ⟨v, vm₁, ⟨U', l2, c2, s2⟩, hW₁, X', ⟨g', mk, t, L, e1, e2, hq, h1, hL, h2, h3⟩, st⟩ := vx_callVW X hx (C := C) (hh := hh) (bytes := bytes) (maxL := maxL) (ret := ret) ho hl hin hse hcode hy hK (by rw [hT]; exact hcB) hoB hclB hg (hsize.trans hml.symm) (argsL := As) (rest := rest) (fun sig h => hn.trans (hlen sig h)) hstack hW (by rw [hb]; exact hdg)
    (fun vm₁ hW₁ => ⟨hf.1, hf.2, hPc (T.setVm vm₁) hT hW₁⟩)
  dsimp only [Pt.U, Pt.locs, Pt.cells, Pt.slots] at X' e1 e2 h1 h2 h3 st
  subst h1; subst h2; subst h3
  exact ⟨v, (T.setVm vm₁).calling g' mk (Value.ref b :: As).toArray, t, U', L, hT, X', hL, e1, e2, hq, st⟩
section
variable {y : MethodName} {bytes cc : ByteArray} {maxL nL mc ms n index : Nat} {ret : Option FieldType} {ws : List Cond} {rm : Room} {Pc : Array Value → State → Prop} {Qc : Array Value → State → Outcome → State → Prop} {XC : String → State → State → Prop} {free : Addr → Prop} {Ts : List Cond} {own C : String} {b : Addr} {As rest : List Value} {g : JFrame}
theorem vx_runVX {hh : List (Nat × Nat × Nat × Nat)} (S : CallFix p m c cc nL s args Ts own) (hM : vx_Met l y ws rm Pc Qc XC mc ms free) (cw : vx_CVW R s args own C index y bytes maxL ret hh ws rm mc ms n) (hp : PreV s H C b Pc As)
    (hg : g.method = m) (hn : As.length = n) (hsize : g.locals.size = nL) (hstack : g.stack = As.reverse ++ .ref b :: rest) (hW : 2 * g.monitorRoom + (rest.map fun v => v.category).sum ≤ 8) (hdg : decode cc g.pc = .ok (.invokevirtual index, 3)) (hf : cells + mc ≤ R.cells ∧ slots + ms ≤ R.slots) :
    vx_Run p l e R s m args below meth c H locs cells slots mc ms g rest (Qc (Value.ref b :: As).toArray) XC free := by
  obtain ⟨⟨hrc, hrs, hfr, hlo, hws, hcw⟩, hcode, hini, hy, hlen, hl, hin, hse⟩ := cw
  have hK : vx_Back l R p e below s args y 3 8 (PreOf R mc ms Pc) (PostOf Qc mc ms free) (vx_Post XC mc ms free) := vx_backW (hh := hh) (bytes := bytes) (maxL := maxL) (ret := ret) hM hp.1 hrc hrs hfr hlo hws hcw (fun a' U hW => word_at hW (Or.inl (by first | rfl | simp [Cond.onTables, Cond.keeps, Cond.steady])) hini)
  obtain ⟨hx, hb, hml, ho, -⟩ := S
  obtain ⟨-, ⟨cellB, hcB, hoB, hclB⟩, hPc⟩ := hp
  intro T hT X
  rcases vx_callVX X hx (C := C) (hh := hh) (bytes := bytes) (maxL := maxL) (ret := ret) ho hl hin hse hcode hy hK (by rw [hT]; exact hcB) hoB hclB hg (hsize.trans hml.symm) (argsL := As) (rest := rest) (fun sig h => hn.trans (hlen sig h)) hstack hW (by rw [hb]; exact hdg)
    (fun vm₁ hW₁ => ⟨hf.1, hf.2, hPc (T.setVm vm₁) hT hW₁⟩) with ⟨v, vm₁, ⟨U', l2, c2, s2⟩, hW₁, X', ⟨g', mk, t, L, e1, e2, hq, h1, hL, h2, h3⟩, st⟩ | ⟨q, vm₁, ⟨U', l2, c2, s2⟩, hW₁, X', ⟨g', mk, t, L, E, ce, e1, e2, hq, hce, hcv, hcl, h1, hL, h2, h3⟩, st⟩
  · dsimp only [Pt.U, Pt.locs, Pt.cells, Pt.slots] at X' e1 e2 h1 h2 h3 st
    subst h1; subst h2; subst h3
    exact Or.inl ⟨v, (T.setVm vm₁).calling g' mk (Value.ref b :: As).toArray, t, U', L, hT, X', hL, e1, e2, hq, st⟩
  · dsimp only [Pt.U, Pt.locs, Pt.cells, Pt.slots] at X' e1 e2 h1 h2 h3 st hcl
    subst h1; subst h2; subst h3
    exact Or.inr ⟨q, (T.setVm vm₁).calling g' mk (Value.ref b :: As).toArray, t, U', L, E, ce, hT, X', hL, e1, e2, hq, hce, hcv, vx_cls hW₁ hcl, st⟩
theorem vx_runSX {hh : List (Nat × Nat × Nat × Nat)} (S : CallFix p m c cc nL s args Ts own) (hM : vx_Met l y ws rm Pc Qc XC mc ms free) (cw : vx_CSW R s args own index y bytes maxL ret hh ws rm mc ms n) (hp : PreS s H Pc As)
    (hg : g.method = m) (hn : As.length = n) (hsize : g.locals.size = nL) (hstack : g.stack = As.reverse ++ rest) (hW : 2 * g.monitorRoom + (rest.map fun v => v.category).sum ≤ 8) (hdg : decode cc g.pc = .ok (.invokestatic index, 3)) (hf : cells + mc ≤ R.cells ∧ slots + ms ≤ R.slots) :
    vx_Run p l e R s m args below meth c H locs cells slots mc ms g rest (Qc As.toArray) XC free := by
  obtain ⟨⟨hrc, hrs, hfr, hlo, hws, hcw⟩, hcode, hini, hy, hlen, hl, hstt⟩ := cw
  have hK : vx_Back l R p e below s args y 3 8 (PreOf R mc ms Pc) (PostOf Qc mc ms free) (vx_Post XC mc ms free) := vx_backW (hh := hh) (bytes := bytes) (maxL := maxL) (ret := ret) hM hp.1 hrc hrs hfr hlo hws hcw (fun a' U hW => word_at hW (Or.inl (by first | rfl | simp [Cond.onTables, Cond.keeps, Cond.steady])) hini)
  obtain ⟨hx, hb, hml, ho, -⟩ := S
  intro T hT X
  rcases vx_callSX X hx (hh := hh) (bytes := bytes) (maxL := maxL) (ret := ret) ho hl hstt hini hcode hy hK hg (hsize.trans hml.symm) (argsL := As) (rest := rest) (fun sig h => hn.trans (hlen sig h)) hstack hW (by rw [hb]; exact hdg)
    (fun vm₁ hW₁ => ⟨hf.1, hf.2, hp.2 (T.setVm vm₁) hT hW₁⟩) with ⟨v, vm₁, ⟨U', l2, c2, s2⟩, hW₁, X', ⟨g', mk, t, L, e1, e2, hq, h1, hL, h2, h3⟩, st⟩ | ⟨q, vm₁, ⟨U', l2, c2, s2⟩, hW₁, X', ⟨g', mk, t, L, E, ce, e1, e2, hq, hce, hcv, hcl, h1, hL, h2, h3⟩, st⟩
  · dsimp only [Pt.U, Pt.locs, Pt.cells, Pt.slots] at X' e1 e2 h1 h2 h3 st
    subst h1; subst h2; subst h3
    exact Or.inl ⟨v, (T.setVm vm₁).calling g' mk As.toArray, t, U', L, hT, X', hL, e1, e2, hq, st⟩
  · dsimp only [Pt.U, Pt.locs, Pt.cells, Pt.slots] at X' e1 e2 h1 h2 h3 st hcl
    subst h1; subst h2; subst h3
    exact Or.inr ⟨q, (T.setVm vm₁).calling g' mk As.toArray, t, U', L, E, ce, hT, X', hL, e1, e2, hq, hce, hcv, vx_cls hW₁ hcl, st⟩
end
end VXH
theorem vx_ofWH {l : Launch} {y : MethodName} {ws ws' : List Cond} {rm : Room} {Pc : Array Value → State → Prop} {Qc : Array Value → State → Outcome → State → Prop} {XC : String → State → State → Prop} {mc ms : Nat} {free : Addr → Prop} {cc : ByteArray} {maxL : Nat} {ret : Option FieldType} {hh : List (Nat × Nat × Nat × Nat)}
    (hy : plainName y.cls = true) (hw : ws = Cond.codeWith y cc maxL ret hh :: ws')
    (body : ∀ p e s m args below meth c s₁, BodyLoose p l y (headSpec ws rm) cc maxL ret e s m args below meth c s₁ → c.maxLocals = maxL → Pc args s →
      W p l e (headSpec ws rm).room s m args below meth c s.heap [] 0 0 (vx_MQ below Qc XC args s mc ms free) (entryFrame m args maxL)) : vx_Met l y ws rm Pc Qc XC mc ms free := by
  refine MetFree.of_bodyS (code := cc) (maxLocals := maxL) (ret := ret) hy ?_ ?_
  · intro args s m h hn
    obtain ⟨m9, meth, c, hn9, h1, h2, h3, h4, -, h5, h6, -⟩ := Cond.codeWith_spec (atoms_spec (ws := ws) h _ (by rw [hw]; exact List.mem_cons_self))
    cases hn.symm.trans hn9
    exact ⟨meth, c, h1, h2, h3, h4, h5, h6⟩
  · intro p e s m args below meth c s₁ B hml hP _
    have hh0 : s₁.heap = s.heap := by rw [B.state]; rfl
    obtain ⟨t, a1, o, b1, b2, b3⟩ := body p e s m args below meth c s₁ B hml hP s₁ hh0 (Stand.of_body B)
    exact ⟨t, o, a1, b1, b2, b3⟩
/-! ===== END ===== -/
end
section
/-! THE ABSTRACT MACHINE: values without addresses, a store by families of cells, a verification condition for each instruction -/
abbrev qV : Type := Int32 ⊕ Int64 ⊕ (Nat × Nat)
abbrev qLs : Type := List (Option qV)
abbrev qSt : Type := (Nat → Nat → Nat → Int32) × (Nat → Nat → Nat → Int64) × (Nat → Nat → Nat → Nat)
def q_I (S : qSt) (f i j : Nat) : Int32 := S.1 f i j
def q_L (S : qSt) (f i j : Nat) : Int64 := S.2.1 f i j
def q_M (S : qSt) (f i j : Nat) : Nat := S.2.2 f i j
def q_wI (S : qSt) (f i j : Nat) (v : Int32) : qSt := (fun a b c => if a = f ∧ b = i ∧ c = j then v else S.1 a b c, S.2)
def q_wL (S : qSt) (f i j : Nat) (v : Int64) : qSt := (S.1, fun a b c => if a = f ∧ b = i ∧ c = j then v else S.2.1 a b c, S.2.2)
def q_wM (S : qSt) (f i j : Nat) (v : Nat) : qSt := (S.1, S.2.1, fun a b c => if a = f ∧ b = i ∧ c = j then v else S.2.2 a b c)
theorem q_I_wI (S : qSt) (f i j a b c : Nat) (v : Int32) : q_I (q_wI S f i j v) a b c = if a = f ∧ b = i ∧ c = j then v else q_I S a b c := rfl
theorem q_I_wL (S : qSt) (f i j a b c : Nat) (v : Int64) : q_I (q_wL S f i j v) a b c = q_I S a b c := rfl
theorem q_I_wM (S : qSt) (f i j a b c : Nat) (v : Nat) : q_I (q_wM S f i j v) a b c = q_I S a b c := rfl
theorem q_L_wL (S : qSt) (f i j a b c : Nat) (v : Int64) : q_L (q_wL S f i j v) a b c = if a = f ∧ b = i ∧ c = j then v else q_L S a b c := rfl
theorem q_L_wI (S : qSt) (f i j a b c : Nat) (v : Int32) : q_L (q_wI S f i j v) a b c = q_L S a b c := rfl
theorem q_L_wM (S : qSt) (f i j a b c : Nat) (v : Nat) : q_L (q_wM S f i j v) a b c = q_L S a b c := rfl
theorem q_M_wM (S : qSt) (f i j a b c : Nat) (v : Nat) : q_M (q_wM S f i j v) a b c = if a = f ∧ b = i ∧ c = j then v else q_M S a b c := rfl
theorem q_M_wI (S : qSt) (f i j a b c : Nat) (v : Int32) : q_M (q_wI S f i j v) a b c = q_M S a b c := rfl
theorem q_M_wL (S : qSt) (f i j a b c : Nat) (v : Int64) : q_M (q_wL S f i j v) a b c = q_M S a b c := rfl
/-- locals -/
def q_get : qLs → Nat → Option qV
  | [], _ => none
  | x :: _, 0 => x
  | _ :: xs, n + 1 => q_get xs n
def q_nl : Option qV → Option qV
  | some (.inr (.inl _)) => none
  | x => x
def q_put : qLs → Nat → Option qV → qLs
  | [], _, _ => []
  | _ :: xs, 0, v => v :: xs
  | x :: xs, 1, v => q_nl x :: q_put xs 0 v
  | x :: xs, n + 2, v => x :: q_put xs (n + 1) v
def q_ldI (o : Option qV) (k : qV → Prop) : Prop := match o with
  | some (.inl x) => k (.inl x)
  | _ => False
def q_ldL (o : Option qV) (k : qV → Prop) : Prop := match o with
  | some (.inr (.inl x)) => k (.inr (.inl x))
  | _ => False
def q_ldR (o : Option qV) (k : qV → Prop) : Prop := match o with
  | some (.inr (.inr x)) => k (.inr (.inr x))
  | _ => False
def q_inc (o : Option qV) (z : Int32) (k : qV → Prop) : Prop := match o with
  | some (.inl x) => k (.inl (x + z))
  | _ => False
def q_bin (a : Nat) (x y : Int32) : Int32 := match a with
  | 0 => x + y
  | 1 => x - y
  | 2 => x * y
  | 3 => x &&& y
  | 4 => x ||| y
  | 5 => x ^^^ y
  | 6 => x <<< (y &&& 31)
  | 7 => x >>> (y &&& 31)
  | _ => (x.toUInt32 >>> (y.toUInt32 &&& Int32.toUInt32 31)).toInt32
def q_binL (a : Nat) (x y : Int64) : Int64 := match a with
  | 0 => x + y
  | 1 => x - y
  | 2 => x * y
  | 3 => x &&& y
  | 4 => x ||| y
  | _ => x ^^^ y
def q_shL (a : Nat) (x : Int64) (y : Int32) : Int64 := match a with
  | 0 => x <<< (y.toInt64 &&& 63)
  | 1 => x >>> (y.toInt64 &&& 63)
  | _ => (x.toUInt64 >>> (y.toInt64.toUInt64 &&& Int64.toUInt64 63)).toInt64
/-- a branch: jump A, go on B -/
def q_if (a : Nat) (x y : Int32) (A B : Prop) : Prop := match a with
  | 0 => (x = y → A) ∧ (¬ x = y → B)
  | 1 => (¬ x = y → A) ∧ (x = y → B)
  | 2 => (x < y → A) ∧ (¬ x < y → B)
  | 3 => (y ≤ x → A) ∧ (¬ y ≤ x → B)
  | 4 => (y < x → A) ∧ (¬ y < x → B)
  | _ => (x ≤ y → A) ∧ (¬ x ≤ y → B)
def q_sw (x : Int32) (J : Nat → Prop) (d : Nat) : List (Int32 × Nat) → Prop
  | [] => J d
  | (k, b) :: r => (x = k → J b) ∧ (¬ x = k → q_sw x J d r)
/-- families: an object (class, fields) or an array (kind, length, target) -/
abbrev qF : Type := (Nat × List (Nat × Nat × Nat × Nat)) ⊕ (Nat × Nat × Nat × Nat × Nat)
def q_fam (f : Nat) : qF := match f with
  | 0 => .inl (9, [(3, 1, 0, 0), (4, 3, 0, 0), (4, 3, 0, 0), (4, 12, 0, 0), (4, 12, 0, 0), (4, 16, 0, 0), (4, 16, 0, 0), (3, 18, 0, 0), (3, 24, 0, 0), (3, 28, 0, 0), (3, 29, 0, 0), (3, 33, 0, 0), (0, 0, 0, 0), (0, 0, 0, 0), (0, 0, 0, 0), (0, 0, 0, 0)])
  | 1 => .inl (4, [(3, 2, 0, 0), (0, 0, 0, 0), (0, 0, 0, 0), (0, 0, 0, 0), (0, 0, 0, 0), (0, 0, 0, 0), (0, 0, 0, 0)])
  | 2 => .inr (1, 600, 0, 0, 0)
  | 3 => .inl (8, [(0, 0, 0, 0), (0, 0, 0, 0), (0, 0, 0, 0), (3, 4, 0, 1), (3, 5, 0, 1), (3, 6, 0, 1), (3, 7, 0, 1), (3, 8, 0, 1), (3, 9, 0, 1), (3, 10, 0, 1), (3, 11, 0, 1)])
  | 4 => .inr (0, 3, 0, 0, 0)
  | 5 => .inr (0, 6, 0, 0, 0)
  | 6 => .inr (0, 6, 0, 0, 0)
  | 7 => .inr (0, 6, 0, 0, 0)
  | 8 => .inr (0, 6, 0, 0, 0)
  | 9 => .inr (0, 6, 0, 0, 0)
  | 10 => .inr (0, 6, 0, 0, 0)
  | 11 => .inr (0, 6, 0, 0, 0)
  | 12 => .inl (1, [(3, 13, 0, 1), (3, 14, 0, 1), (3, 15, 0, 1), (0, 0, 0, 0)])
  | 13 => .inr (0, 160, 0, 0, 0)
  | 14 => .inr (0, 160, 0, 0, 0)
  | 15 => .inr (0, 8, 0, 0, 0)
  | 16 => .inl (6, [(0, 0, 0, 0), (0, 0, 0, 0), (0, 0, 0, 0), (3, 17, 0, 1), (0, 0, 0, 0)])
  | 17 => .inr (0, 12, 0, 0, 0)
  | 18 => .inl (7, [(3, 19, 0, 0), (3, 20, 0, 0), (3, 21, 0, 0), (3, 22, 0, 0), (3, 23, 0, 0), (0, 0, 0, 0), (0, 0, 0, 0), (0, 0, 0, 0)])
  | 19 => .inr (0, 150, 0, 0, 0)
  | 20 => .inr (0, 150, 0, 0, 0)
  | 21 => .inr (0, 150, 0, 0, 0)
  | 22 => .inr (0, 150, 0, 0, 0)
  | 23 => .inr (0, 150, 0, 0, 0)
  | 24 => .inl (2, [(3, 25, 0, 1), (0, 0, 0, 0)])
  | 25 => .inr (3, 17, 26, 0, 17)
  | 26 => .inl (3, [(1, 0, 0, 0), (0, 0, 0, 0), (3, 27, 0, 1)])
  | 27 => .inr (0, 6, 0, 0, 0)
  | 28 => .inr (3, 3, 24, 1, 0)
  | 29 => .inl (5, [(3, 30, 0, 0), (3, 31, 0, 0), (3, 32, 0, 0), (0, 0, 0, 0), (0, 0, 0, 0), (4, 3, 0, 0), (0, 0, 0, 0), (0, 0, 0, 0), (0, 0, 0, 0), (2, 0, 0, 0), (0, 0, 0, 0), (0, 0, 0, 0)])
  | 30 => .inr (2, 20000, 0, 0, 0)
  | 31 => .inr (1, 20000, 0, 0, 0)
  | 32 => .inr (0, 32768, 0, 0, 0)
  | 33 => .inl (0, [(0, 0, 0, 0), (1, 0, 0, 0), (0, 0, 0, 0), (0, 0, 0, 0)])
  | 40 => .inl (10, [(0, 0, 0, 0), (0, 0, 0, 0), (0, 0, 0, 0), (0, 0, 0, 0), (0, 0, 0, 0), (0, 0, 0, 0), (0, 0, 0, 0), (0, 0, 0, 0), (0, 0, 0, 0), (3, 41, 0, 0), (3, 42, 0, 0), (3, 43, 0, 0), (3, 44, 0, 0), (3, 45, 0, 0), (3, 46, 0, 0), (3, 47, 0, 0), (3, 48, 0, 0), (3, 49, 0, 0), (3, 51, 0, 0), (0, 0, 0, 0), (0, 0, 0, 0), (3, 53, 0, 0), (3, 55, 0, 0), (3, 57, 0, 0), (3, 59, 0, 0), (3, 61, 0, 0), (3, 62, 0, 0), (3, 63, 0, 0), (0, 0, 0, 0), (3, 65, 0, 0), (3, 65, 1, 0), (3, 66, 0, 0), (3, 67, 0, 0), (0, 0, 0, 0), (0, 0, 0, 0), (0, 0, 0, 0), (0, 0, 0, 0), (0, 0, 0, 0), (0, 0, 0, 0), (0, 0, 0, 0), (3, 69, 0, 0), (3, 70, 0, 0), (3, 71, 0, 0), (3, 72, 0, 0), (3, 65, 2, 0), (3, 65, 3, 0), (0, 0, 0, 0), (0, 0, 0, 0), (0, 0, 0, 0), (0, 0, 0, 0), (0, 0, 0, 0), (0, 0, 0, 0), (0, 0, 0, 0)])
  | 41 => .inr (0, 600, 0, 0, 0)
  | 42 => .inr (0, 2, 0, 0, 0)
  | 43 => .inr (0, 3, 0, 0, 0)
  | 44 => .inr (0, 3, 0, 0, 0)
  | 45 => .inr (0, 3, 0, 0, 0)
  | 46 => .inr (0, 3, 0, 0, 0)
  | 47 => .inr (0, 6, 0, 0, 0)
  | 48 => .inr (0, 6, 0, 0, 0)
  | 49 => .inr (3, 6, 50, 0, 0)
  | 50 => .inr (0, 3, 0, 0, 0)
  | 51 => .inr (3, 6, 52, 0, 0)
  | 52 => .inr (0, 3, 0, 0, 0)
  | 53 => .inr (3, 160, 54, 0, 0)
  | 54 => .inr (0, 2, 0, 0, 0)
  | 55 => .inr (3, 160, 56, 0, 0)
  | 56 => .inr (0, 2, 0, 0, 0)
  | 57 => .inr (3, 12, 58, 0, 0)
  | 58 => .inr (0, 3, 0, 0, 0)
  | 59 => .inr (3, 12, 60, 0, 0)
  | 60 => .inr (0, 3, 0, 0, 0)
  | 61 => .inr (0, 160, 0, 0, 0)
  | 62 => .inr (0, 8, 0, 0, 0)
  | 63 => .inr (3, 80, 64, 0, 0)
  | 64 => .inr (0, 5, 0, 0, 0)
  | 65 => .inr (0, 29, 0, 0, 0)
  | 66 => .inr (3, 16, 65, 4, 0)
  | 67 => .inr (3, 3, 68, 0, 0)
  | 68 => .inr (0, 494, 0, 0, 0)
  | 69 => .inr (0, 40500, 0, 0, 0)
  | 70 => .inr (0, 40500, 0, 0, 0)
  | 71 => .inr (0, 40500, 0, 0, 0)
  | 72 => .inr (0, 6, 0, 0, 0)
  | 80 => .inr (2, 1, 0, 0, 0)
  | _ => .inr (9, 0, 0, 0, 0)
def q_cnt (f : Nat) : Nat := match f with
  | 0 => 1
  | 1 => 1
  | 2 => 1
  | 3 => 3
  | 4 => 3
  | 5 => 3
  | 6 => 3
  | 7 => 3
  | 8 => 3
  | 9 => 3
  | 10 => 3
  | 11 => 3
  | 12 => 2
  | 13 => 2
  | 14 => 2
  | 15 => 2
  | 16 => 2
  | 17 => 2
  | 18 => 1
  | 19 => 1
  | 20 => 1
  | 21 => 1
  | 22 => 1
  | 23 => 1
  | 24 => 4
  | 25 => 4
  | 26 => 68
  | 27 => 68
  | 28 => 1
  | 29 => 1
  | 30 => 1
  | 31 => 1
  | 32 => 1
  | 33 => 1
  | 40 => 1
  | 41 => 1
  | 42 => 1
  | 43 => 1
  | 44 => 1
  | 45 => 1
  | 46 => 1
  | 47 => 1
  | 48 => 1
  | 49 => 1
  | 50 => 6
  | 51 => 1
  | 52 => 6
  | 53 => 1
  | 54 => 160
  | 55 => 1
  | 56 => 160
  | 57 => 1
  | 58 => 12
  | 59 => 1
  | 60 => 12
  | 61 => 1
  | 62 => 1
  | 63 => 1
  | 64 => 80
  | 65 => 20
  | 66 => 1
  | 67 => 1
  | 68 => 3
  | 69 => 1
  | 70 => 1
  | 71 => 1
  | 72 => 1
  | 80 => 1
  | _ => 0
def q_aty (f : Nat) : FieldType := match f with
  | 2 => .byte
  | 25 => (.object "BlockedCars$Position")
  | 28 => (.object "BlockedCars$Past")
  | 30 => .long
  | 31 => .byte
  | 49 => (.array .int)
  | 51 => (.array .int)
  | 53 => (.array .int)
  | 55 => (.array .int)
  | 57 => (.array .int)
  | 59 => (.array .int)
  | 63 => (.array .int)
  | 66 => (.array .int)
  | 67 => (.array .int)
  | 80 => .long
  | _ => .int
def q_ak (f : Nat) : Nat := match q_fam f with | .inr (k, _) => k | .inl _ => 9
def q_al (f : Nat) : Nat := match q_fam f with | .inr (_, n, _) => n | .inl _ => 0
theorem q_aks : q_ak 2 = 1 ∧ q_ak 4 = 0 ∧ q_ak 5 = 0 ∧ q_ak 6 = 0 ∧ q_ak 7 = 0 ∧ q_ak 8 = 0 ∧ q_ak 9 = 0 ∧ q_ak 10 = 0 ∧ q_ak 11 = 0 ∧ q_ak 13 = 0 ∧ q_ak 14 = 0 ∧ q_ak 15 = 0 ∧ q_ak 17 = 0 ∧ q_ak 19 = 0 ∧ q_ak 20 = 0 ∧ q_ak 21 = 0 ∧ q_ak 22 = 0 ∧ q_ak 23 = 0 ∧ q_ak 25 = 3 ∧ q_ak 27 = 0 ∧ q_ak 28 = 3 ∧ q_ak 30 = 2 ∧ q_ak 31 = 1 ∧ q_ak 32 = 0 ∧ q_ak 41 = 0 ∧ q_ak 42 = 0 ∧ q_ak 43 = 0 ∧ q_ak 44 = 0 ∧ q_ak 45 = 0 ∧ q_ak 46 = 0 ∧ q_ak 47 = 0 ∧ q_ak 48 = 0 ∧ q_ak 49 = 3 ∧ q_ak 50 = 0 ∧ q_ak 51 = 3 ∧ q_ak 52 = 0 ∧ q_ak 53 = 3 ∧ q_ak 54 = 0 ∧ q_ak 55 = 3 ∧ q_ak 56 = 0 ∧ q_ak 57 = 3 ∧ q_ak 58 = 0 ∧ q_ak 59 = 3 ∧ q_ak 60 = 0 ∧ q_ak 61 = 0 ∧ q_ak 62 = 0 ∧ q_ak 63 = 3 ∧ q_ak 64 = 0 ∧ q_ak 65 = 0 ∧ q_ak 66 = 3 ∧ q_ak 67 = 3 ∧ q_ak 68 = 0 ∧ q_ak 69 = 0 ∧ q_ak 70 = 0 ∧ q_ak 71 = 0 ∧ q_ak 72 = 0 ∧ q_ak 80 = 2 := ⟨rfl, rfl, rfl, rfl, rfl, rfl, rfl, rfl, rfl, rfl, rfl, rfl, rfl, rfl, rfl, rfl, rfl, rfl, rfl, rfl, rfl, rfl, rfl, rfl, rfl, rfl, rfl, rfl, rfl, rfl, rfl, rfl, rfl, rfl, rfl, rfl, rfl, rfl, rfl, rfl, rfl, rfl, rfl, rfl, rfl, rfl, rfl, rfl, rfl, rfl, rfl, rfl, rfl, rfl, rfl, rfl, rfl⟩
theorem q_als : q_al 2 = 600 ∧ q_al 4 = 3 ∧ q_al 5 = 6 ∧ q_al 6 = 6 ∧ q_al 7 = 6 ∧ q_al 8 = 6 ∧ q_al 9 = 6 ∧ q_al 10 = 6 ∧ q_al 11 = 6 ∧ q_al 13 = 160 ∧ q_al 14 = 160 ∧ q_al 15 = 8 ∧ q_al 17 = 12 ∧ q_al 19 = 150 ∧ q_al 20 = 150 ∧ q_al 21 = 150 ∧ q_al 22 = 150 ∧ q_al 23 = 150 ∧ q_al 25 = 17 ∧ q_al 27 = 6 ∧ q_al 28 = 3 ∧ q_al 30 = 20000 ∧ q_al 31 = 20000 ∧ q_al 32 = 32768 ∧ q_al 41 = 600 ∧ q_al 42 = 2 ∧ q_al 43 = 3 ∧ q_al 44 = 3 ∧ q_al 45 = 3 ∧ q_al 46 = 3 ∧ q_al 47 = 6 ∧ q_al 48 = 6 ∧ q_al 49 = 6 ∧ q_al 50 = 3 ∧ q_al 51 = 6 ∧ q_al 52 = 3 ∧ q_al 53 = 160 ∧ q_al 54 = 2 ∧ q_al 55 = 160 ∧ q_al 56 = 2 ∧ q_al 57 = 12 ∧ q_al 58 = 3 ∧ q_al 59 = 12 ∧ q_al 60 = 3 ∧ q_al 61 = 160 ∧ q_al 62 = 8 ∧ q_al 63 = 80 ∧ q_al 64 = 5 ∧ q_al 65 = 29 ∧ q_al 66 = 16 ∧ q_al 67 = 3 ∧ q_al 68 = 494 ∧ q_al 69 = 40500 ∧ q_al 70 = 40500 ∧ q_al 71 = 40500 ∧ q_al 72 = 6 ∧ q_al 80 = 1 := ⟨rfl, rfl, rfl, rfl, rfl, rfl, rfl, rfl, rfl, rfl, rfl, rfl, rfl, rfl, rfl, rfl, rfl, rfl, rfl, rfl, rfl, rfl, rfl, rfl, rfl, rfl, rfl, rfl, rfl, rfl, rfl, rfl, rfl, rfl, rfl, rfl, rfl, rfl, rfl, rfl, rfl, rfl, rfl, rfl, rfl, rfl, rfl, rfl, rfl, rfl, rfl, rfl, rfl, rfl, rfl, rfl, rfl⟩

abbrev qG : Type := (Nat → Nat → Nat) × (Nat → Nat → ClassId) × va_G
def q_cv (G : qG) : qV → Value
  | .inl x => .int x
  | .inr (.inl y) => .long y
  | .inr (.inr p) => .ref (G.1 p.1 p.2)
def q_fv (G : qG) (S : qSt) (f i j : Nat) (k : Nat × Nat × Nat × Nat) : Value := match k.1 with
  | 0 => .int (q_I S f i j)
  | 1 => .long (q_L S f i j)
  | 2 => .int (q_I S f i j)
  | 3 => .ref (G.1 k.2.1 (k.2.2.1 + k.2.2.2 * i))
  | _ => .ref (G.1 k.2.1 (q_M S f i j))
def q_fvs (G : qG) (S : qSt) (f i : Nat) : Nat → List (Nat × Nat × Nat × Nat) → List Value
  | _, [] => []
  | j, k :: ks => q_fv G S f i j k :: q_fvs G S f i (j + 1) ks
def q_cel (G : qG) (S : qSt) (f i : Nat) : va_E := match q_fam f with
  | .inl q => .inr (q.1, q_fvs G S f i 0 q.2)
  | .inr (0, n, _) => .inl (G.2.1 f i, n, .inl (q_I S f i))
  | .inr (1, n, _) => .inl (G.2.1 f i, n, .inl (q_I S f i))
  | .inr (2, n, _) => .inl (G.2.1 f i, n, .inr (.inl (q_L S f i)))
  | .inr (_, n, g, c0, c1) => .inl (G.2.1 f i, n, .inr (.inr (.inr (.inr (fun j => some (G.1 g (c0 + c1 * i + j)))))))
def q_fk (f j : Nat) : Option (Nat × Nat × Nat × Nat) := match q_fam f with
  | .inl q => q.2[j]?
  | .inr _ => none
/-- the heap holds the store; what refers, refers to a cell of the world -/
def q_H (G : qG) (S : qSt) (H : Heap) : Prop := (∀ f i, i < q_cnt f → va_at G.2.2 vwCl (G.1 f i, q_cel G S f i) H) ∧
  ∀ f i j g c, i < q_cnt f → q_fk f j = some (4, g, c) → q_M S f i j < q_cnt g
def q_W (G : qG) (U : State) : Prop := va_K G.2.2 vwCl [] U ∧ (∀ f i, i < q_cnt f → q_ak f < 4 → ArrOfT U (G.2.1 f i) (q_aty f) ∧ va_RA U (G.2.1 f i) (q_aty f)) ∧
  ∀ f i g j, i < q_cnt f → j < q_cnt g → G.1 f i = G.1 g j → f = g ∧ i = j
theorem q_W.moved {G : qG} {u U : State} (hvm : u.vm.Alike U.vm) (h : q_W G u) : q_W G U :=
  ⟨h.1.moved hvm, fun f i hi hk => ⟨arrOfT_moved hvm (h.2.1 f i hi hk).1, (h.2.1 f i hi hk).2.moved hvm⟩, h.2.2⟩
def q_A (G : qG) : Nat → Prop := fun q => ∃ f i, i < q_cnt f ∧ q = G.1 f i
/-- the texts of the claim's String constants, and where they are named -/
def q_txt : List String := ["an argument is out of its range", "no such lane", "no such car", "lane", "car", "key", "cost", "length", "tries", "hour", "cars", "moved", "own", "least", "most", "park", "move", "leave", "swap", "again"]
def q_slen : List Nat := [31, 12, 11, 4, 3, 3, 4, 6, 5, 4, 4, 5, 3, 5, 4, 4, 4, 5, 4, 5]
def q_sbyt : List (List Int32) := [[97, 110, 32, 97, 114, 103, 117, 109, 101, 110, 116, 32, 105, 115, 32, 111, 117, 116, 32, 111, 102, 32, 105, 116, 115, 32, 114, 97, 110, 103, 101], [110, 111, 32, 115, 117, 99, 104, 32, 108, 97, 110, 101], [110, 111, 32, 115, 117, 99, 104, 32, 99, 97, 114], [108, 97, 110, 101], [99, 97, 114], [107, 101, 121], [99, 111, 115, 116], [108, 101, 110, 103, 116, 104], [116, 114, 105, 101, 115], [104, 111, 117, 114], [99, 97, 114, 115], [109, 111, 118, 101, 100], [111, 119, 110], [108, 101, 97, 115, 116], [109, 111, 115, 116], [112, 97, 114, 107], [109, 111, 118, 101], [108, 101, 97, 118, 101], [115, 119, 97, 112], [97, 103, 97, 105, 110]]
def q_sref : List (String × Nat × Nat) := [("BlockedCars", 339, 0), ("BlockedCars", 346, 1), ("BlockedCars", 349, 2), ("BlockedCars$Yard", 94, 3), ("BlockedCars$Yard", 100, 4), ("BlockedCars$Yard", 102, 5), ("BlockedCars$Yard", 104, 6), ("BlockedCars$Law", 101, 7), ("BlockedCars$Law", 103, 8), ("BlockedCars$Law", 105, 9), ("BlockedCars$Law", 107, 4), ("BlockedCars$Law", 109, 3), ("BlockedCars$Law", 111, 10), ("BlockedCars$Law", 113, 11), ("BlockedCars$Law", 115, 12), ("BlockedCars$Law", 82, 13), ("BlockedCars$Law", 92, 14), ("BlockedCars$Work", 58, 15), ("BlockedCars$Work", 81, 16), ("BlockedCars$Work", 83, 17), ("BlockedCars$Work", 85, 18), ("BlockedCars$Work", 87, 19)]
/-- what a start gives of cells that no method changes: texts (their addresses: families 99, 98), statics, a nest mate's link -/
def q_E (G : qG) (U : State) (H : Heap) : Prop := vk_S 20 q_slen q_sbyt (G.1 99) (G.1 98) (q_A G) U H ∧ (∀ x ∈ q_sref, vk_R x.1 x.2.1 (q_txt.getD x.2.2 "") (G.1 99 x.2.2) U) ∧ va_Nw (.methodLinkNest "BlockedCars$Spots" 80 yX10_isWithin "BlockedCars") U ∧
  va_Z "java/lang/String" "COMPACT_STRINGS" "Z" (.int 1) (q_A G) U H ∧ vx_Zq Bundle.tN "UNASSIGNED_STACK" Bundle.steD (q_A G) U H ∧ vx_Zq Bundle.tN "SUPPRESSED_SENTINEL" Bundle.listD (q_A G) U H ∧ va_Z "jdk/internal/util/Preconditions" "SIOOBE_FORMATTER" "Ljava/util/function/BiFunction;" (.ref (G.1 97 0)) (q_A G) U H
theorem q_E.same {G : qG} {u U : State} (hv : U.vm = u.vm) (hh : U.heap = u.heap) (h : q_E G u u.heap) : q_E G U U.heap := by
  have al : u.vm.Alike U.vm := by rw [hv]; exact Vm.Alike.refl u.vm
  obtain ⟨h1, h2, h3, h4, h5, h6, h7⟩ := h
  rw [hh]
  exact ⟨h1.moved al, fun x hx => (h2 x hx).same hv, h3.same rfl hv.symm, h4.moved al, h5.moved al, h6.moved al, h7.moved al⟩
theorem q_E.go {G : qG} {s U : State} {H : Heap} {locs : List Loc} (hS : va_S (q_A G) s.heap H locs) (hW : s.WarmedH U.vm) (hU : U.heap = H) (h : q_E G s s.heap) : q_E G U U.heap := by
  obtain ⟨h1, h2, h3, h4, h5, h6, h7⟩ := h
  rw [hU]
  exact ⟨(h1.kept hS.2.1).moved hW.alike, fun x hx => (h2 x hx).warm hW, h3.warmM hW, (h4.kept hS.2.1).moved hW.alike, (h5.kept hS.2.1).moved hW.alike, (h6.kept hS.2.1).moved hW.alike, (h7.kept hS.2.1).moved hW.alike⟩
def q_ok : qV → Prop
  | .inr (.inr p) => p.2 < q_cnt p.1 ∨ (97 ≤ p.1 ∧ p.2 < 20)
  | _ => True
def q_oks (st : List qV) : Prop := ∀ v ∈ st, q_ok v
def q_okl (ls : qLs) : Prop := ∀ v, some v ∈ ls → q_ok v
def q_ty (r : Nat) (v : Option qV) : Prop := match r with
  | 0 => v = none
  | 1 => ∃ x, v = some (.inl x)
  | 2 => ∃ x, v = some (.inr (.inl x))
  | n + 3 => ∃ i, v = some (.inr (.inr (n, i))) ∧ i < q_cnt n
def q_Qc (G : qG) (rt : Nat) (post : Option qV → qSt → Prop) : Array Value → State → Outcome → State → Prop := fun _ st o t =>
  (∃ r S', o = .returned (r.map (q_cv G)) ∧ q_ty rt r ∧ post r S' ∧ q_H G S' t.heap ∧ q_W G t) ∧ va_F (q_A G) st t
def q_Pc (G : qG) (as : List qV) (S : qSt) : Array Value → State → Prop := fun v U => v = (as.map (q_cv G)).toArray ∧ q_W G U ∧ q_H G S U.heap ∧ q_oks as ∧ q_E G U U.heap
theorem q_Pc_blind (G : qG) (as : List qV) (S : qSt) : FrameBlind (q_Pc G as S) := fun a U g mk h => ⟨h.1, q_W.moved (u := U) (U := U.calling g mk a) (Vm.Alike.refl U.vm) h.2.1, h.2.2.1, h.2.2.2.1, q_E.same (u := U) rfl rfl h.2.2.2.2⟩
abbrev qM : Type := MethodName × ByteArray × Nat × Option FieldType
def q_rm (d : Nat) : Room := { frames := d, cells := 0, slots := 0, locals := 200 * d }
def q_TB : List Cond := lw_tbl.filter goodWord
def q_ws (q : qM) : List Cond := .code q.1 q.2.1 q.2.2.1 q.2.2.2 :: q_TB
/-- the contract of method number k at depth d: with these arguments, from this store -/
def q_Met (mt : Nat → Option qM) (l : Launch) (d k rt : Nat) (as : List qV) (S : qSt) (post : Option qV → qSt → Prop) : Prop :=
  ∀ (G : qG) (q : qM), mt k = some q → Met l q.1 (q_ws q) (q_rm d) (q_Pc G as S) (q_Qc G rt post) 0 0 (q_A G)
/-- six numbers of one row of family 27 to another -/
def q_cp6 (S : qSt) (i j : Nat) : qSt := (fun a b c => if a = 27 ∧ b = j ∧ c < 6 then S.1 27 i c else S.1 a b c, S.2)
/-- instructions: number, pc, three numbers, an int, a long, a switch's rows -/
abbrev qO : Type := Nat × Nat × Nat × Nat × Nat × Int32 × Int64 × List (Int32 × Nat)
def q_call (mt : Nat → Option qM) (l : Launch) (d k rt : Nat) (as : List qV) (S : qSt) (K : List qV → qSt → Prop) : Prop := match rt with
  | 0 => ∃ d' post, d' < d ∧ q_Met mt l d' k 0 as S post ∧ ∀ S', post none S' → K [] S'
  | 1 => ∃ d' post, d' < d ∧ q_Met mt l d' k 1 as S post ∧ ∀ x S', post (some (.inl x)) S' → K [.inl x] S'
  | 2 => ∃ d' post, d' < d ∧ q_Met mt l d' k 2 as S post ∧ ∀ x S', post (some (.inr (.inl x))) S' → K [.inr (.inl x)] S'
  | n + 3 => ∃ d' post, d' < d ∧ q_Met mt l d' k (n + 3) as S post ∧ ∀ i S', post (some (.inr (.inr (n, i)))) S' → K [.inr (.inr (n, i))] S'
def q_w (st : List qV) : Nat := match st with
  | [] => 0
  | .inr (.inl _) :: r => 2 + q_w r
  | _ :: r => 1 + q_w r
def q_op (mt : Nat → Option qM) (l : Launch) (d rt : Nat) (J : Nat → qLs → List qV → qSt → Prop) (RET : Option qV → qSt → Prop) (o : qO) (ls : qLs) (st : List qV) (S : qSt) (k : qLs → List qV → qSt → Prop) : Prop := match o with
  | (0, _, _, _, _, z, _, _) => k ls (.inl z :: st) S
  | (1, _, _, _, _, _, z, _) => k ls (.inr (.inl z) :: st) S
  | (2, _, a, _) => q_ldI (q_get ls a) (fun v => k ls (v :: st) S)
  | (3, _, a, _) => q_ldL (q_get ls a) (fun v => k ls (v :: st) S)
  | (4, _, a, _) => q_ldR (q_get ls a) (fun v => k ls (v :: st) S)
  | (5, _, a, _) => match st with
    | .inl x :: r => k (q_put ls a (some (.inl x))) r S
    | _ => False
  | (6, _, a, _) => match st with
    | .inr (.inl x) :: r => k (q_put (q_put ls (a + 1) none) a (some (.inr (.inl x)))) r S
    | _ => False
  | (7, _, a, _) => match st with
    | .inr (.inr x) :: r => k (q_put ls a (some (.inr (.inr x)))) r S
    | _ => False
  | (8, _, a, _, _, z, _) => q_inc (q_get ls a) z (fun v => k (q_put ls a (some v)) st S)
  | (9, _, a, _) => match st with
    | .inl y :: .inl x :: r => k ls (.inl (q_bin a x y) :: r) S
    | _ => False
  | (10, _) => match st with
    | .inl y :: .inl x :: r => ¬ y = 0 ∧ k ls (.inl (x / y) :: r) S
    | _ => False
  | (11, _) => match st with
    | .inl y :: .inl x :: r => ¬ y = 0 ∧ k ls (.inl (x - x / y * y) :: r) S
    | _ => False
  | (12, _, a, _) => match st with
    | .inr (.inl y) :: .inr (.inl x) :: r => k ls (.inr (.inl (q_binL a x y)) :: r) S
    | _ => False
  | (13, _, a, _) => match st with
    | .inl y :: .inr (.inl x) :: r => k ls (.inr (.inl (q_shL a x y)) :: r) S
    | _ => False
  | (14, _) => match st with
    | .inl x :: r => k ls (.inl (-x) :: r) S
    | _ => False
  | (15, _) => match st with
    | .inl x :: r => k ls (.inl x.toInt8.toInt32 :: r) S
    | _ => False
  | (16, _) => match st with
    | .inl x :: r => k ls (.inr (.inl x.toInt64) :: r) S
    | _ => False
  | (17, _) => match st with
    | .inr (.inl x) :: r => k ls (.inl x.toInt32 :: r) S
    | _ => False
  | (18, _) => match st with
    | .inr (.inl y) :: .inr (.inl x) :: r => k ls (.inl (lg_cmp x y) :: r) S
    | _ => False
  | (19, _) => match st with
    | .inl x :: r => k ls (.inl x :: .inl x :: r) S
    | .inr (.inr x) :: r => k ls (.inr (.inr x) :: .inr (.inr x) :: r) S
    | _ => False
  | (20, _) => match st with
    | .inl y :: .inr (.inr x) :: r => k ls (.inl y :: .inr (.inr x) :: .inl y :: .inr (.inr x) :: r) S
    | _ => False
  | (21, _) => match st with
    | .inl _ :: r => k ls r S
    | .inr (.inr _) :: r => k ls r S
    | _ => False
  | (22, _, a, b, _) => match st with
    | .inl x :: r => q_if a x 0 (J b ls r S) (k ls r S)
    | _ => False
  | (23, _, a, b, _) => match st with
    | .inl y :: .inl x :: r => q_if a x y (J b ls r S) (k ls r S)
    | _ => False
  | (24, _, a, _) => J a ls st S
  | (25, _, a, _, _, _, _, w) => match st with
    | .inl x :: r => q_sw x (fun b => J b ls r S) a w
    | _ => False
  | (26, _, f, j, _) => match st with
    | .inr (.inr (g, i)) :: r => g = f ∧ k ls (.inl (q_I S f i j) :: r) S
    | _ => False
  | (27, _, f, j, _) => match st with
    | .inr (.inr (g, i)) :: r => g = f ∧ k ls (.inr (.inl (q_L S f i j)) :: r) S
    | _ => False
  | (28, _, f, _, h, _) => match st with
    | .inr (.inr (g, i)) :: r => g = f ∧ k ls (.inr (.inr (h, i)) :: r) S
    | _ => False
  | (29, _, f, _, h, _, _, w) => match st with
    | .inr (.inr (g, _)) :: r => g = f ∧ match w with
      | [(_, c)] => k ls (.inr (.inr (h, c)) :: r) S
      | _ => False
    | _ => False
  | (30, _, f, j, h, _) => match st with
    | .inr (.inr (g, i)) :: r => g = f ∧ k ls (.inr (.inr (h, q_M S f i j)) :: r) S
    | _ => False
  | (31, _, f, j, _) => match st with
    | .inl x :: .inr (.inr (g, i)) :: r => g = f ∧ k ls r (q_wI S f i j x)
    | _ => False
  | (32, _, f, j, _) => match st with
    | .inr (.inl x) :: .inr (.inr (g, i)) :: r => g = f ∧ k ls r (q_wL S f i j x)
    | _ => False
  | (33, _, f, j, h, _) => match st with
    | .inr (.inr (h', x)) :: .inr (.inr (g, i)) :: r => h' = h ∧ g = f ∧ k ls r (q_wM S f i j x)
    | _ => False
  | (34, _, f, j, _) => match st with
    | .inl x :: .inr (.inr (g, i)) :: r => (x = 0 ∨ x = 1) ∧ g = f ∧ k ls r (q_wI S f i j x)
    | _ => False
  | (35, _) => match st with
    | .inl x :: .inr (.inr (f, i)) :: r => q_ak f = 0 ∧ vp_in x (q_al f) ∧ k ls (.inl (q_I S f i x.toNatClampNeg) :: r) S
    | _ => False
  | (36, _) => match st with
    | .inl x :: .inr (.inr (f, i)) :: r => q_ak f = 1 ∧ vp_in x (q_al f) ∧ k ls (.inl (q_I S f i x.toNatClampNeg) :: r) S
    | _ => False
  | (37, _) => match st with
    | .inl x :: .inr (.inr (f, i)) :: r => q_ak f = 2 ∧ vp_in x (q_al f) ∧ k ls (.inr (.inl (q_L S f i x.toNatClampNeg)) :: r) S
    | _ => False
  | (38, _) => match st with
    | .inl x :: .inr (.inr (f, i)) :: r => vp_in x (q_al f) ∧ match q_fam f with
      | .inr (3, _, g, c0, c1) => k ls (.inr (.inr (g, c0 + c1 * i + x.toNatClampNeg)) :: r) S
      | _ => False
    | _ => False
  | (39, _) => match st with
    | .inl v :: .inl x :: .inr (.inr (f, i)) :: r => q_ak f = 0 ∧ vp_in x (q_al f) ∧ k ls r (q_wI S f i x.toNatClampNeg v)
    | _ => False
  | (40, _) => match st with
    | .inl v :: .inl x :: .inr (.inr (f, i)) :: r => q_ak f = 1 ∧ vp_in x (q_al f) ∧ k ls r (q_wI S f i x.toNatClampNeg v.toInt8.toInt32)
    | _ => False
  | (41, _) => match st with
    | .inr (.inl v) :: .inl x :: .inr (.inr (f, i)) :: r => q_ak f = 2 ∧ vp_in x (q_al f) ∧ k ls r (q_wL S f i x.toNatClampNeg v)
    | _ => False
  | (42, _) => match st with
    | .inr (.inr (f, _)) :: r => q_ak f < 4 ∧ k ls (.inl (Int32.ofNat (q_al f)) :: r) S
    | _ => False
  | (43, _, a, n, r9, _) => n ≤ st.length ∧ q_w (st.drop n) ≤ 8 ∧ q_call mt l d a r9 (st.take n).reverse S (fun v S' => k ls (v ++ st.drop n) S')
  | (44, _, a, n, r9, _, _, w) => match w, (st.take n).reverse with
    | [(_, h)], .inr (.inr (f, i)) :: as => f = h ∧ n ≤ st.length ∧ q_w (st.drop n) ≤ 8 ∧ q_call mt l d a r9 (.inr (.inr (f, i)) :: as) S (fun v S' => k ls (v ++ st.drop n) S')
    | _, _ => False
  | (45, _) => match st with
    | [.inl x] => RET (some (.inl x)) S
    | _ => False
  | (46, _) => match st with
    | [.inl x] => (x = 0 ∨ x = 1) ∧ RET (some (.inl x)) S
    | _ => False
  | (47, _) => match st with
    | [.inr (.inl x)] => RET (some (.inr (.inl x))) S
    | _ => False
  | (48, _) => match st with
    | [.inr (.inr x)] => x.1 + 3 = rt ∧ RET (some (.inr (.inr x))) S
    | _ => False
  | (49, _) => match st with
    | [] => RET none S
    | _ => False
  | (50, _, a, _) => J a ls st S
  | (51, _) => match st with
    | .inl y :: .inl x :: r => (0 < d ∧ q_w r ≤ 8) ∧ k ls (.inl (if y < x then y else x) :: r) S
    | _ => False
  | (52, _) => match st with
    | .inl y :: .inl x :: r => (0 < d ∧ q_w r ≤ 8) ∧ k ls (.inl (if x < y then y else x) :: r) S
    | _ => False
  | (54, _, a, _) => k ls (.inr (.inr (99, a)) :: st) S
  | (55, _, a, n, r9, _) => n ≤ st.length ∧ q_w (st.drop n) ≤ 8 ∧ q_call mt l d a r9 (st.take n).reverse S (fun v S' => k ls (v ++ st.drop n) S')
  | (56, _) => match st with
    | .inl n :: .inl dp :: .inr (.inr (g, j)) :: .inl p9 :: .inr (.inr (f, i)) :: r => f = 27 ∧ g = 27 ∧ ¬ i = j ∧ n = 6 ∧ dp = 0 ∧ p9 = 0 ∧ 0 < d ∧ q_w r ≤ 8 ∧ k ls r (q_cp6 S i j)
    | _ => False
  | (57, _) => match st with
    | .inr (.inr (g, i)) :: r => g = 99 ∧ k ls (.inr (.inr (98, i)) :: r) S
    | _ => False
  | (58, _) => match st with
    | .inr (.inr (g, _)) :: r => g = 99 ∧ k ls (.inl 0 :: r) S
    | _ => False
  | (59, _) => k ls (.inl 1 :: st) S
  | (60, _) => k ls (.inr (.inr (97, 0)) :: st) S
  | (61, _) => match st with
    | .inr (.inr (g, i)) :: r => g = 98 ∧ k ls (.inl (Int32.ofNat (q_slen.getD i 0)) :: r) S
    | _ => False
  | (62, _) => match st with
    | .inl x :: .inr (.inr (g, i)) :: r => g = 98 ∧ vp_in x (q_slen.getD i 0) ∧ k ls (.inl ((q_sbyt.getD i []).getD x.toNatClampNeg 0) :: r) S
    | _ => False
  | (63, _) => match st with
    | .inl x :: r => k ls (.inl (x.toUInt32 % 65536).toInt32 :: r) S
    | _ => False
  | (64, _, a, n, r9, _) => match (st.take n).reverse with
    | .inr (.inr (f, i)) :: as => f = 99 ∧ n ≤ st.length ∧ q_w (st.drop n) ≤ 8 ∧ q_call mt l d a r9 (.inr (.inr (f, i)) :: as) S (fun v S' => k ls (v ++ st.drop n) S')
    | _ => False
  | (65, _) => match st with
    | [.inl x] => x.toInt8.toInt32 = x ∧ RET (some (.inl x)) S
    | _ => False
  | (66, _) => match st with
    | [.inl x] => (x.toUInt32 % 65536).toInt32 = x ∧ RET (some (.inl x)) S
    | _ => False
  | _ => False
def q_run (mt : Nat → Option qM) (l : Launch) (d rt : Nat) (J : Nat → qLs → List qV → qSt → Prop) (RET : Option qV → qSt → Prop) : List qO → qLs → List qV → qSt → Prop
  | [], _, _, _ => False
  | o :: os, ls, st, S => q_op mt l d rt J RET o ls st S (fun ls st S => q_run mt l d rt J RET os ls st S)
theorem q_TB_good {w : Cond} (h : w ∈ q_TB) : w ∈ lw_tbl ∧ goodWord w = true := List.mem_filter.mp h
theorem q_TB_in {w : Cond} (h : w ∈ lw_tbl) (g : goodWord w = true) : w ∈ q_TB := List.mem_filter.mpr ⟨h, g⟩
/-- what the tables say of an object's family -/
def q_fo (f : Nat) : Prop := ∀ q, q_fam f = .inl q → ∃ (C : String) (T : u_T) (N : Nat) (ty : Nat → FieldType), vwCl[q.1]? = some (C, T, N) ∧ q.2.length = N ∧ (∀ w ∈ u_ws C T N, w ∈ q_TB) ∧
  (∀ k, k < N → parseFieldDescriptor (T k).2.2.1 = some (ty k)) ∧ (∀ a, a < N → ∀ b, b < N → a ≠ b → (T a).2.1 ≠ (T b).2.1) ∧ (∀ k, k < N → (T k).1 = C) ∧
  ∀ j k, q.2[j]? = some k → (k.1 = 0 → ty j = .int ∧ (T j).2.2.2 = false) ∧ (k.1 = 1 → ty j = .long ∧ (T j).2.2.2 = false) ∧ (k.1 = 2 → ty j = .boolean ∧ (T j).2.2.2 = false) ∧ (k.1 = 4 → (∃ n, ty j = .object n) ∧ (T j).2.2.2 = false) ∧ k.1 < 5
/-- the constant pool's rows that the code uses: field (class, slot), virtual, static, min or max -/
def q_cpok (mt : Nat → Option qM) (own : String) (e : Nat × Nat × Nat × Nat) : Prop := match e with
  | (k, 0, ci, j) => ∀ C T N, vwCl[ci]? = some (C, T, N) → Cond.fieldLink own k C (T j).2.1 (T j).2.2.1 ∈ q_TB
  | (k, 1, a, n) => ∃ q, mt a = some q ∧ Cond.methodLink own k q.1 ∈ q_TB ∧ Cond.instanceMethod q.1 ∈ q_TB ∧ Cond.selects q.1.cls q.1 q.1 ∈ q_TB ∧ Cond.initialized q.1.cls ∈ q_TB ∧ Cond.code q.1 q.2.1 q.2.2.1 q.2.2.2 ∈ q_TB ∧
    (q.1.cls ≠ "java/lang/invoke/MethodHandle" ∧ q.1.cls ≠ "java/lang/invoke/VarHandle" ∧ (parseMethodDescriptor q.1.desc).map (fun d => d.parameters.length) = some n) ∧ q.2.2.1 ≤ 150
  | (k, 2, a, n) => ∃ q, mt a = some q ∧ Cond.methodLink own k q.1 ∈ q_TB ∧ Cond.static q.1 ∈ q_TB ∧ Cond.initialized q.1.cls ∈ q_TB ∧ Cond.code q.1 q.2.1 q.2.2.1 q.2.2.2 ∈ q_TB ∧
    (q.1.cls ≠ "java/lang/invoke/MethodHandle" ∧ q.1.cls ≠ "java/lang/invoke/VarHandle" ∧ (parseMethodDescriptor q.1.desc).map (fun d => d.parameters.length) = some n) ∧ q.2.2.1 ≤ 150
  | (k, 4, a, n) => ∃ q, mt a = some q ∧ own = "BlockedCars$Spots" ∧ k = 80 ∧ q.1 = yX10_isWithin ∧ Cond.static q.1 ∈ q_TB ∧ Cond.initialized q.1.cls ∈ q_TB ∧ Cond.code q.1 q.2.1 q.2.2.1 q.2.2.2 ∈ q_TB ∧
    (q.1.cls ≠ "java/lang/invoke/MethodHandle" ∧ q.1.cls ≠ "java/lang/invoke/VarHandle" ∧ (parseMethodDescriptor q.1.desc).map (fun d => d.parameters.length) = some n) ∧ q.2.2.1 ≤ 150
  | (k, 5, _, _) => Cond.methodLink own k arraycopyName ∈ q_TB
  | (k, 6, 0, _) => Cond.fieldLink own k "java/lang/String" "value" "[B" ∈ q_TB
  | (k, 6, 1, _) => Cond.fieldLink own k "java/lang/String" "coder" "B" ∈ q_TB
  | (k, 6, 2, _) => Cond.fieldLink own k "java/lang/String" "COMPACT_STRINGS" "Z" ∈ q_TB
  | (k, 6, 3, _) => Cond.fieldLink own k "jdk/internal/util/Preconditions" "SIOOBE_FORMATTER" "Ljava/util/function/BiFunction;" ∈ q_TB
  | (k, 3, 0, _) => Cond.methodLink own k Lib.Math.min.name ∈ q_TB
  | (k, 3, _, _) => Cond.methodLink own k Lib.Math.max.name ∈ q_TB
  | _ => False
abbrev qK : Type := List (Nat × Nat × Nat × Nat) × List (Nat × Int32) × List (Nat × Int64) × List (Nat × Nat)
def q_kok (mt : Nat → Option qM) (own : String) (K : qK) : Prop := (∀ e ∈ K.1, q_cpok mt own e) ∧ (∀ e ∈ K.2.1, Cond.constant own e.1 e.2 ∈ q_TB) ∧ (∀ e ∈ K.2.2.1, Cond.constantLong own e.1 e.2 ∈ q_TB) ∧ ∀ e ∈ K.2.2.2, (own, e.1, e.2) ∈ q_sref
def q_bp (B : List Nat) (b : Nat) : Nat := B.getD b 0
def q_cnd : Nat → ClassFile.Cond
  | 0 => .eq
  | 1 => .ne
  | 2 => .lt
  | 3 => .ge
  | 4 => .gt
  | _ => .le
def q_ci (f : Nat) : Nat := match q_fam f with | .inl q => q.1 | .inr _ => 99
/-- the instructions that an op may stand for, with their lengths -/
def q_exp (K : qK) (B : List Nat) (len : Nat) (o : qO) : List (Instr × Nat) := match o with
  | (0, _, _, _, _, z, _, _) => [(.iconst z.toInt, 1)] ++ ((if (Int8.ofInt z.toInt).toInt32 = z then [(.bipush z.toInt, 2)] else []) ++ (if (Int16.ofInt z.toInt).toInt32 = z then [(.sipush z.toInt, 3)] else [])) ++ ((K.2.1.filter (fun e => decide (e.2 = z))).map (fun e => ((.ldc e.1, 2) : Instr × Nat)) ++ (K.2.1.filter (fun e => decide (e.2 = z))).map (fun e => ((.ldc_w e.1, 3) : Instr × Nat)))
  | (1, _, _, _, _, _, z, _) => ((if z = 0 then [(.lconst 0, 1)] else []) ++ (if z = 1 then [(.lconst 1, 1)] else [])) ++ (K.2.2.1.filter (fun e => decide (e.2 = z))).map (fun e => ((.ldc2_w e.1, 3) : Instr × Nat))
  | (2, _, a, _) => (.iload a, 2) :: (if a < 4 then [(.iload_n (Fin.ofNat 4 a), 1)] else [])
  | (3, _, a, _) => (.lload a, 2) :: (if a < 4 then [(.lload_n (Fin.ofNat 4 a), 1)] else [])
  | (4, _, a, _) => (.aload a, 2) :: (if a < 4 then [(.aload_n (Fin.ofNat 4 a), 1)] else [])
  | (5, _, a, _) => (.istore a, 2) :: (if a < 4 then [(.istore_n (Fin.ofNat 4 a), 1)] else [])
  | (6, _, a, _) => (.lstore a, 2) :: (if a < 4 then [(.lstore_n (Fin.ofNat 4 a), 1)] else [])
  | (7, _, a, _) => (.astore a, 2) :: (if a < 4 then [(.astore_n (Fin.ofNat 4 a), 1)] else [])
  | (8, _, a, _, _, z, _) => [(.iinc a z.toInt, 3)]
  | (9, _, 0, _) => [(.iadd, 1)]
  | (9, _, 1, _) => [(.isub, 1)]
  | (9, _, 2, _) => [(.imul, 1)]
  | (9, _, 3, _) => [(.iand, 1)]
  | (9, _, 4, _) => [(.ior, 1)]
  | (9, _, 5, _) => [(.ixor, 1)]
  | (9, _, 6, _) => [(.ishl, 1)]
  | (9, _, 7, _) => [(.ishr, 1)]
  | (9, _, 8, _) => [(.iushr, 1)]
  | (10, _) => [(.idiv, 1)]
  | (11, _) => [(.irem, 1)]
  | (12, _, 0, _) => [(.ladd, 1)]
  | (12, _, 1, _) => [(.lsub, 1)]
  | (12, _, 2, _) => [(.lmul, 1)]
  | (12, _, 3, _) => [(.land, 1)]
  | (12, _, 4, _) => [(.lor, 1)]
  | (12, _, 5, _) => [(.lxor, 1)]
  | (13, _, 0, _) => [(.lshl, 1)]
  | (13, _, 1, _) => [(.lshr, 1)]
  | (13, _, 2, _) => [(.lushr, 1)]
  | (14, _) => [(.ineg, 1)]
  | (15, _) => [(.i2b, 1)]
  | (16, _) => [(.i2l, 1)]
  | (17, _) => [(.l2i, 1)]
  | (18, _) => [(.lcmp, 1)]
  | (19, _) => [(.dup, 1)]
  | (20, _) => [(.dup2, 1)]
  | (21, _) => [(.pop, 1)]
  | (22, pc, a, b, _) => [(.ifCond (q_cnd a) ((q_bp B b : Int) - pc), 3)]
  | (23, pc, a, b, _) => [(.if_icmp (q_cnd a) ((q_bp B b : Int) - pc), 3)]
  | (24, pc, a, _) => [(.goto ((q_bp B a : Int) - pc), 3)]
  | (25, pc, a, _, _, _, _, w) => (if (List.range w.length).all (fun i => decide ((w[i]?).map (fun e => e.1.toInt) = some ((w.head?.map (fun e => e.1.toInt)).getD 0 + i))) then [(.tableswitch ((q_bp B a : Int) - pc) ((w.head?.map (fun e => e.1.toInt)).getD 0) ((w.head?.map (fun e => e.1.toInt)).getD 0 + w.length - 1) (w.map (fun e => (q_bp B e.2 : Int) - pc)).toArray, len)] else []) ++ (if ((w.map (fun e => (e.1.toInt, (q_bp B e.2 : Int) - pc))).zip ((w.map (fun e => (e.1.toInt, (q_bp B e.2 : Int) - pc))).drop 1)).all (fun (a, next) => a.1 < next.1) then [(.lookupswitch ((q_bp B a : Int) - pc) (w.map (fun e => (e.1.toInt, (q_bp B e.2 : Int) - pc))).toArray, len)] else [])
  | (26, _, f, j, _) => (K.1.filter (fun e => decide (e.2.1 = 0 ∧ e.2.2.1 = q_ci f ∧ e.2.2.2 = j))).map (fun e => ((.getfield e.1, 3) : Instr × Nat))
  | (27, _, f, j, _) => (K.1.filter (fun e => decide (e.2.1 = 0 ∧ e.2.2.1 = q_ci f ∧ e.2.2.2 = j))).map (fun e => ((.getfield e.1, 3) : Instr × Nat))
  | (28, _, f, j, _) => (K.1.filter (fun e => decide (e.2.1 = 0 ∧ e.2.2.1 = q_ci f ∧ e.2.2.2 = j))).map (fun e => ((.getfield e.1, 3) : Instr × Nat))
  | (29, _, f, j, _) => (K.1.filter (fun e => decide (e.2.1 = 0 ∧ e.2.2.1 = q_ci f ∧ e.2.2.2 = j))).map (fun e => ((.getfield e.1, 3) : Instr × Nat))
  | (30, _, f, j, _) => (K.1.filter (fun e => decide (e.2.1 = 0 ∧ e.2.2.1 = q_ci f ∧ e.2.2.2 = j))).map (fun e => ((.getfield e.1, 3) : Instr × Nat))
  | (31, _, f, j, _) => (K.1.filter (fun e => decide (e.2.1 = 0 ∧ e.2.2.1 = q_ci f ∧ e.2.2.2 = j))).map (fun e => ((.putfield e.1, 3) : Instr × Nat))
  | (32, _, f, j, _) => (K.1.filter (fun e => decide (e.2.1 = 0 ∧ e.2.2.1 = q_ci f ∧ e.2.2.2 = j))).map (fun e => ((.putfield e.1, 3) : Instr × Nat))
  | (33, _, f, j, _) => (K.1.filter (fun e => decide (e.2.1 = 0 ∧ e.2.2.1 = q_ci f ∧ e.2.2.2 = j))).map (fun e => ((.putfield e.1, 3) : Instr × Nat))
  | (34, _, f, j, _) => (K.1.filter (fun e => decide (e.2.1 = 0 ∧ e.2.2.1 = q_ci f ∧ e.2.2.2 = j))).map (fun e => ((.putfield e.1, 3) : Instr × Nat))
  | (35, _) => [(.iaload, 1)]
  | (36, _) => [(.baload, 1)]
  | (37, _) => [(.laload, 1)]
  | (38, _) => [(.aaload, 1)]
  | (39, _) => [(.iastore, 1)]
  | (40, _) => [(.bastore, 1)]
  | (41, _) => [(.lastore, 1)]
  | (42, _) => [(.arraylength, 1)]
  | (43, _, a, n, _) => (K.1.filter (fun e => decide (e.2.1 = 2 ∧ e.2.2.1 = a ∧ e.2.2.2 = n))).map (fun e => ((.invokestatic e.1, 3) : Instr × Nat))
  | (44, _, a, n, _) => (K.1.filter (fun e => decide (e.2.1 = 1 ∧ e.2.2.1 = a ∧ e.2.2.2 + 1 = n))).map (fun e => ((.invokevirtual e.1, 3) : Instr × Nat))
  | (45, _) => [(.ireturn, 1)]
  | (46, _) => [(.ireturn, 1)]
  | (47, _) => [(.lreturn, 1)]
  | (48, _) => [(.areturn, 1)]
  | (49, _) => [(.return_, 1)]
  | (51, _) => (K.1.filter (fun e => decide (e.2.1 = 3 ∧ e.2.2.1 = 0))).map (fun e => ((.invokestatic e.1, 3) : Instr × Nat))
  | (52, _) => (K.1.filter (fun e => decide (e.2.1 = 3 ∧ e.2.2.1 = 1))).map (fun e => ((.invokestatic e.1, 3) : Instr × Nat))
  | (54, _, a, _) => (K.2.2.2.filter (fun e => decide (e.2 = a))).map (fun e => ((.ldc e.1, 2) : Instr × Nat))
  | (57, _) => (K.1.filter (fun e => decide (e.2.1 = 6 ∧ e.2.2.1 = 0))).map (fun e => ((.getfield e.1, 3) : Instr × Nat))
  | (58, _) => (K.1.filter (fun e => decide (e.2.1 = 6 ∧ e.2.2.1 = 1))).map (fun e => ((.getfield e.1, 3) : Instr × Nat))
  | (59, _) => (K.1.filter (fun e => decide (e.2.1 = 6 ∧ e.2.2.1 = 2))).map (fun e => ((.getstatic e.1, 3) : Instr × Nat))
  | (60, _) => (K.1.filter (fun e => decide (e.2.1 = 6 ∧ e.2.2.1 = 3))).map (fun e => ((.getstatic e.1, 3) : Instr × Nat))
  | (61, _) => [(.arraylength, 1)]
  | (62, _) => [(.baload, 1)]
  | (63, _) => [(.i2c, 1)]
  | (64, _, a, n, _) => (K.1.filter (fun e => decide (e.2.1 = 1 ∧ e.2.2.1 = a ∧ e.2.2.2 + 1 = n))).map (fun e => ((.invokevirtual e.1, 3) : Instr × Nat))
  | (65, _) => [(.ireturn, 1)]
  | (66, _) => [(.ireturn, 1)]
  | (55, _, a, n, _) => (K.1.filter (fun e => decide (e.2.1 = 4 ∧ e.2.2.1 = a ∧ e.2.2.2 = n))).map (fun e => ((.invokestatic e.1, 3) : Instr × Nat))
  | (56, _) => (K.1.filter (fun e => decide (e.2.1 = 5))).map (fun e => ((.invokestatic e.1, 3) : Instr × Nat))
  | _ => []
/-- what else an op must be -/
def q_ckx (mt : Nat → Option qM) (nL : Nat) (ret : Option FieldType) (o : qO) : Bool := match o with
  | (5, _, a, _) => decide (a < nL)
  | (6, _, a, _) => decide (a + 1 < nL)
  | (7, _, a, _) => decide (a < nL)
  | (8, _, a, _) => decide (a < nL)
  | (26, _, f, j, _) => decide ((q_fk f j).map (fun k => k.1) = some 0) || decide ((q_fk f j).map (fun k => k.1) = some 2)
  | (27, _, f, j, _) => decide ((q_fk f j).map (fun k => k.1) = some 1)
  | (28, _, f, j, h, _) => decide (q_fk f j = some (3, h, 0, 1)) && decide (q_cnt f ≤ q_cnt h)
  | (29, _, f, j, h, _, _, [(_, c)]) => decide (q_fk f j = some (3, h, c, 0)) && decide (c < q_cnt h)
  | (30, _, f, j, h, _) => decide (q_fk f j = some (4, h, 0, 0))
  | (31, _, f, j, _) => decide ((q_fk f j).map (fun k => k.1) = some 0)
  | (32, _, f, j, _) => decide ((q_fk f j).map (fun k => k.1) = some 1)
  | (33, _, f, j, h, _) => decide (q_fk f j = some (4, h, 0, 0)) && decide (h < 97)
  | (34, _, f, j, _) => decide ((q_fk f j).map (fun k => k.1) = some 2)
  | (44, _, a, _, _, _, _, [(_, h)]) => match vwCl[q_ci h]?, mt a with
    | some r, some q => decide (r.1 = q.1.cls)
    | _, _ => false
  | (45, _) => decide (ret = some .int)
  | (46, _) => decide (ret = some .boolean)
  | (47, _) => decide (ret = some .long)
  | (48, _) => match ret with
    | some (.object _) => true
    | _ => false
  | (49, _) => decide (ret = none)
  | (64, _, a, _) => match mt a with
    | some q => decide (q.1.cls = "java/lang/String")
    | _ => false
  | (65, _) => decide (ret = some .byte)
  | (66, _) => decide (ret = some .char)
  | _ => true
def q_ckb (mt : Nat → Option qM) (cc : ByteArray) (K : qK) (B : List Nat) (nL : Nat) (ret : Option FieldType) : Nat → List qO → Bool
  | _, [] => true
  | pc, o :: os => if o.1 = 50 then decide (q_bp B o.2.2.1 = pc) else match decode cc pc with
    | .ok (i, len) => decide (o.2.1 = pc) && ((q_exp K B len o).any (fun x => decide (x = (i, len))) && (q_ckx mt nL ret o && q_ckb mt cc K B nL ret (pc + len) os))
    | _ => false
def q_ckc (mt : Nat → Option qM) (cc : ByteArray) (K : qK) (B : List Nat) (nL : Nat) (ret : Option FieldType) (code : List (List qO)) : Bool :=
  (List.range code.length).all (fun b => q_ckb mt cc K B nL ret (q_bp B b) (code.getD b []))
section QS
variable {mt : Nat → Option qM} {p : Program} {l : Launch} {e : Env} {R : Room} {s : State} {m : MethodId} {args : Array Value} {below : List Frame} {meth : Method} {c : Code} {Q : State → Prop} {G : qG} {cc : ByteArray} {nL : Nat} {own : String} {d : Nat}
def q_enc (G : qG) : Nat → qLs → List (Nat × Value)
  | _, [] => []
  | k, none :: xs => q_enc G (k + 1) xs
  | k, some v :: xs => (k, q_cv G v) :: q_enc G (k + 1) xs
theorem q_enc_mem {G : qG} : ∀ {ls : qLs} {k : Nat} {q : Nat × Value}, q ∈ q_enc G k ls ↔ ∃ j v, q_get ls j = some v ∧ q = (k + j, q_cv G v)
  | [], k, q => by simp [q_enc, q_get]
  | none :: xs, k, q => by
    rw [q_enc, q_enc_mem (ls := xs)]
    constructor
    · rintro ⟨j, v, h, rfl⟩
      exact ⟨j + 1, v, h, by rw [Nat.add_right_comm, Nat.add_assoc]⟩
    · rintro ⟨j, v, h, rfl⟩
      cases j with
      | zero => cases h
      | succ j => exact ⟨j, v, h, by rw [Nat.add_right_comm, Nat.add_assoc]⟩
  | some w :: xs, k, q => by
    rw [q_enc, List.mem_cons, q_enc_mem (ls := xs)]
    constructor
    · rintro (rfl | ⟨j, v, h, rfl⟩)
      · exact ⟨0, w, rfl, rfl⟩
      · exact ⟨j + 1, v, h, by rw [Nat.add_right_comm, Nat.add_assoc]⟩
    · rintro ⟨j, v, h, rfl⟩
      cases j with
      | zero => cases h; exact Or.inl rfl
      | succ j => exact Or.inr ⟨j, v, h, by rw [Nat.add_right_comm, Nat.add_assoc]⟩
theorem q_get_put : ∀ {ls : qLs} {a j : Nat} {v : Option qV} {w : qV}, q_get (q_put ls a v) j = some w → (j = a ∧ v = some w) ∨ (j ≠ a ∧ q_get ls j = some w ∧ (j + 1 = a → q_nl (some w) = some w))
  | [], a, j, v, w, h => by simp [q_put, q_get] at h
  | x :: xs, 0, 0, v, w, h => Or.inl ⟨rfl, h⟩
  | x :: xs, 0, j + 1, v, w, h => Or.inr ⟨by omega, h, fun e => by omega⟩
  | x :: xs, 1, 0, v, w, h => by
    have h : q_nl x = some w := h
    refine Or.inr ⟨by omega, ?_, fun _ => ?_⟩
    · rcases x with _ | (x | x | x) <;> simp [q_nl] at h <;> simp [q_get, h]
    · rcases x with _ | (x | x | x) <;> simp [q_nl] at h <;> simp [q_nl, ← h]
  | x :: xs, 1, j + 1, v, w, h => by
    have h : q_get (q_put xs 0 v) j = some w := h
    rcases q_get_put h with ⟨h1, h2⟩ | ⟨h1, h2, h3⟩
    · exact Or.inl ⟨by omega, h2⟩
    · exact Or.inr ⟨by omega, h2, fun e => by omega⟩
  | x :: xs, a + 2, 0, v, w, h => Or.inr ⟨by omega, h, fun e => by omega⟩
  | x :: xs, a + 2, j + 1, v, w, h => by
    have h : q_get (q_put xs (a + 1) v) j = some w := h
    rcases q_get_put h with ⟨h1, h2⟩ | ⟨h1, h2, h3⟩
    · exact Or.inl ⟨by omega, h2⟩
    · exact Or.inr ⟨by omega, h2, fun e => h3 (by omega)⟩
theorem q_nl_cat {G : qG} {w : qV} (h : q_nl (some w) = some w) : (q_cv G w).category = 1 := by
  rcases w with x | x | x
  · rfl
  · simp [q_nl] at h
  · rfl
theorem q_has1 {arr : Array Slot} {ls : qLs} {a : Nat} {v : qV} (h : lv_has arr nL ((a, q_cv G v) :: (q_enc G 0 ls).filter (fun q => !(q.1 == a) && !(q.1 + 1 == a && q.2.category == 2)))) : lv_has arr nL (q_enc G 0 (q_put ls a (some v))) := by
  refine ⟨h.1, h.2.1, fun q hq => ?_⟩
  obtain ⟨j, w, hw, rfl⟩ := q_enc_mem.mp hq
  rw [Nat.zero_add]
  rcases q_get_put hw with ⟨rfl, h2⟩ | ⟨h1, h2, h3⟩
  · cases h2
    exact h.2.2 _ List.mem_cons_self
  · refine h.2.2 (j, q_cv G w) (List.mem_cons_of_mem _ (List.mem_filter.mpr ⟨q_enc_mem.mpr ⟨j, w, h2, by rw [Nat.zero_add]⟩, ?_⟩))
    by_cases e : j + 1 = a
    · simp [h1, e, q_nl_cat (G := G) (h3 e)]
    · simp [h1, e]
theorem q_has2 {arr : Array Slot} {ls : qLs} {a : Nat} {v : Int64} (h : lv_has arr nL ((a, Value.long v) :: (q_enc G 0 ls).filter (fun q => !(q.1 == a) && (!(q.1 == a + 1) && !(q.1 + 1 == a && q.2.category == 2))))) : lv_has arr nL (q_enc G 0 (q_put (q_put ls (a + 1) none) a (some (.inr (.inl v))))) := by
  refine ⟨h.1, h.2.1, fun q hq => ?_⟩
  obtain ⟨j, w, hw, rfl⟩ := q_enc_mem.mp hq
  rw [Nat.zero_add]
  rcases q_get_put hw with ⟨rfl, h2⟩ | ⟨h1, h2, h3⟩
  · cases h2
    exact h.2.2 _ List.mem_cons_self
  · rcases q_get_put h2 with ⟨-, h4⟩ | ⟨h4, h5, -⟩
    · cases h4
    · refine h.2.2 (j, q_cv G w) (List.mem_cons_of_mem _ (List.mem_filter.mpr ⟨q_enc_mem.mpr ⟨j, w, h5, by rw [Nat.zero_add]⟩, ?_⟩))
      by_cases e : j + 1 = a
      · simp [h1, h4, e, q_nl_cat (G := G) (h3 e)]
      · simp [h1, h4, e]
theorem q_put_okl : ∀ {ls : qLs} {a : Nat} {v : Option qV}, q_okl ls → (∀ w, v = some w → q_ok w) → q_okl (q_put ls a v) := by
  intro ls a v h hv w hw
  have : ∃ j, q_get (q_put ls a v) j = some w := by
    clear h hv
    generalize q_put ls a v = L at hw
    induction L with
    | nil => cases hw
    | cons x xs ih =>
      rcases List.mem_cons.mp hw with e | e
      · exact ⟨0, e.symm⟩
      · obtain ⟨j, hj⟩ := ih e
        exact ⟨j + 1, hj⟩
  obtain ⟨j, hj⟩ := this
  have g : ∀ {L : qLs} {j : Nat} {w : qV}, q_get L j = some w → some w ∈ L := by
    intro L
    induction L with
    | nil => intro j w h; cases h
    | cons x xs ih =>
      intro j w h
      cases j with
      | zero => exact List.mem_cons.mpr (Or.inl h.symm)
      | succ j => exact List.mem_cons_of_mem _ (ih h)
  rcases q_get_put hj with ⟨-, h2⟩ | ⟨-, h2, -⟩
  · exact hv w h2
  · exact h w (g h2)
theorem q_get_mem : ∀ {L : qLs} {j : Nat} {w : qV}, q_get L j = some w → some w ∈ L
  | [], j, w, h => by cases h
  | x :: xs, 0, w, h => List.mem_cons.mpr (Or.inl h.symm)
  | x :: xs, j + 1, w, h => List.mem_cons_of_mem _ (q_get_mem (L := xs) (j := j) h)
theorem q_get_has {arr : Array Slot} {ls : qLs} {a : Nat} {v : qV} (h : lv_has arr nL (q_enc G 0 ls)) (hv : q_get ls a = some v) : arr[a]? = some (.val (q_cv G v)) :=
  h.2.2 (a, q_cv G v) (q_enc_mem.mpr ⟨a, v, hv, by rw [Nat.zero_add]⟩)
/-- the machine at pc, with these locals, this stack, this store: it comes to Q -/
def q_At (p : Program) (l : Launch) (e : Env) (R : Room) (s : State) (m : MethodId) (args : Array Value) (below : List Frame) (meth : Method) (c : Code) (Q : State → Prop) (G : qG) (nL : Nat) (pc : Nat) (ls : qLs) (st : List qV) (S : qSt) : Prop :=
  ∀ (H : Heap) (locs : List Loc) (arr : Array Slot), q_H G S H → va_S (q_A G) s.heap H locs → lv_has arr nL (q_enc G 0 ls) → q_okl ls → q_oks st → W p l e R s m args below meth c H locs 0 0 Q (F0 m pc arr (st.map (q_cv G)))
def q_Cx (mt : Nat → Option qM) (p : Program) (l : Launch) (R : Room) (s : State) (m : MethodId) (args : Array Value) (c : Code) (G : qG) (cc : ByteArray) (nL : Nat) (own : String) (d : Nat) : Prop :=
  p.tables.exec = Jvm.exec ∧ c.code = cc ∧ c.maxLocals = nL ∧ s.vm.findClass own = some m.cls ∧ (∀ w ∈ q_TB, w.before args s = true) ∧ q_W G s ∧ (R.frames = d ∧ R.locals = 200 * d) ∧ (∀ f, q_fo f) ∧ q_E G s s.heap
theorem q_cel_set {S S' : qSt} {H H' : Heap} {f i : Nat} (hW : q_W G s) (hH : q_H G S H) (hi : i < q_cnt f) (hat : va_at G.2.2 vwCl (G.1 f i, q_cel G S' f i) H')
    (hoth : ∀ g j, ¬ (g = f ∧ j = i) → q_cel G S' g j = q_cel G S g j) (hq : ∀ q : Nat, q ≠ G.1 f i → H'[q]? = H[q]?) (hM : ∀ g j k h x, j < q_cnt g → q_fk g k = some (4, h, x) → q_M S' g j k < q_cnt h) : q_H G S' H' := by
  refine ⟨fun g j hj => ?_, hM⟩
  by_cases e : g = f ∧ j = i
  · obtain ⟨rfl, rfl⟩ := e
    exact hat
  · rw [hoth g j e]
    refine (hH.1 g j hj).kept (hq _ fun h => e ?_)
    exact hW.2.2 g j f i hj hi h
theorem q_fvs_get {S : qSt} {f i : Nat} : ∀ {ks : List (Nat × Nat × Nat × Nat)} {j0 j : Nat}, (q_fvs G S f i j0 ks)[j]? = (ks[j]?).map (fun k => q_fv G S f i (j0 + j) k)
  | [], j0, j => by simp [q_fvs]
  | k :: ks, j0, 0 => by simp [q_fvs]
  | k :: ks, j0, j + 1 => by
    simp only [q_fvs, List.getElem?_cons_succ]
    rw [q_fvs_get (ks := ks)]
    simp [Nat.add_assoc, Nat.add_comm 1 j]
theorem q_fvs_len {S : qSt} {f i : Nat} : ∀ {ks : List (Nat × Nat × Nat × Nat)} {j0 : Nat}, (q_fvs G S f i j0 ks).length = ks.length
  | [], j0 => rfl
  | k :: ks, j0 => by simp [q_fvs, q_fvs_len (ks := ks)]
end QS
end
section
theorem q_mt1 {w : Cond} (h : w ∈ tables_1_1) : w ∈ lw_tbl := List.mem_append_right _ (List.mem_append_left _ h)
theorem q_mt2 {w : Cond} (h : w ∈ tables_1_2) : w ∈ lw_tbl := List.mem_append_right _ (List.mem_append_right _ (List.mem_append_left _ h))
theorem q_mt3 {w : Cond} (h : w ∈ tables_1_3) : w ∈ lw_tbl := List.mem_append_right _ (List.mem_append_right _ (List.mem_append_right _ (List.mem_append_left _ h)))
theorem q_mt4 {w : Cond} (h : w ∈ tables_1_4) : w ∈ lw_tbl := List.mem_append_right _ (List.mem_append_right _ (List.mem_append_right _ (List.mem_append_right _ (List.mem_append_left _ h))))
theorem q_mt5 {w : Cond} (h : w ∈ tables_1_5) : w ∈ lw_tbl := List.mem_append_right _ (List.mem_append_right _ (List.mem_append_right _ (List.mem_append_right _ (List.mem_append_right _ (List.mem_append_left _ h)))))
theorem q_mt6 {w : Cond} (h : w ∈ tables_1_6) : w ∈ lw_tbl := List.mem_append_right _ (List.mem_append_right _ (List.mem_append_right _ (List.mem_append_right _ (List.mem_append_right _ (List.mem_append_right _ (List.mem_append_left _ h))))))
theorem q_mt7 {w : Cond} (h : w ∈ tables_1_7) : w ∈ lw_tbl := List.mem_append_right _ (List.mem_append_right _ (List.mem_append_right _ (List.mem_append_right _ (List.mem_append_right _ (List.mem_append_right _ (List.mem_append_right _ (List.mem_append_left _ h)))))))
theorem q_mt8 {w : Cond} (h : w ∈ tables_1_8) : w ∈ lw_tbl := List.mem_append_right _ (List.mem_append_right _ (List.mem_append_right _ (List.mem_append_right _ (List.mem_append_right _ (List.mem_append_right _ (List.mem_append_right _ (List.mem_append_right _ (h))))))))
theorem q_mw : Cond.static Lib.Math.min.name ∈ q_TB ∧ Cond.static Lib.Math.max.name ∈ q_TB ∧ Cond.initialized "java/lang/Math" ∈ q_TB := ⟨q_TB_in (q_mt3 (List.mem_of_getElem? (i := 10) rfl)) rfl, q_TB_in (q_mt3 (List.mem_of_getElem? (i := 118) rfl)) rfl, q_TB_in (q_mt1 (List.mem_of_getElem? (i := 16) rfl)) rfl⟩
theorem q_mc : Cond.code Lib.Math.min.name Lib.Math.min.code 2 (some .int) ∈ q_TB ∧ Cond.code Lib.Math.max.name Lib.Math.max.code 2 (some .int) ∈ q_TB := ⟨q_TB_in (q_mt3 (List.mem_of_getElem? (i := 11) rfl)) rfl, q_TB_in (q_mt3 (List.mem_of_getElem? (i := 119) rfl)) rfl⟩
theorem q_ac : Cond.native arraycopyName ∈ q_TB ∧ Cond.static arraycopyName ∈ q_TB ∧ Cond.initialized "java/lang/System" ∈ q_TB := ⟨q_TB_in (q_mt2 (List.mem_of_getElem? (i := 151) rfl)) rfl, q_TB_in (q_mt2 (List.mem_of_getElem? (i := 150) rfl)) rfl, q_TB_in (q_mt1 (List.mem_of_getElem? (i := 22) rfl)) rfl⟩
section QT
variable {mt : Nat → Option qM} {p : Program} {l : Launch} {e : Env} {R : Room} {s : State} {m : MethodId} {args : Array Value} {below : List Frame} {meth : Method} {c : Code} {Q : State → Prop} {G : qG} {cc : ByteArray} {nL : Nat} {own : String} {d : Nat}
variable {pc : Nat} {ls : qLs} {st : List qV} {S : qSt}
theorem q_okT {v : qV} {st : List qV} (hv : q_ok v) (h : q_oks st) : q_oks (v :: st) := fun w hw => (List.mem_cons.mp hw).elim (fun e => e ▸ hv) (h w)
theorem q_okD {v : qV} {st : List qV} (h : q_oks (v :: st)) : q_oks st := fun w hw => h w (List.mem_cons_of_mem _ hw)
theorem q_okH {v : qV} {st : List qV} (h : q_oks (v :: st)) : q_ok v := h v List.mem_cons_self
/-- reading a field -/
theorem q_read (X : q_Cx mt p l R s m args c G cc nL own d) {H : Heap} {locs : List Loc} {arr : Array Slot} {K : qK} (hK : q_kok mt own K) (hH : q_H G S H) {f i j idx : Nat} {k : Nat × Nat × Nat × Nat} (hi : i < q_cnt f) (hk : q_fk f j = some k)
    (hmem : (idx, 0, q_ci f, j) ∈ K.1) (hd : decode cc pc = .ok (.getfield idx, 3)) {rest : List Value} (kk : W p l e R s m args below meth c H locs 0 0 Q (F0 m (pc + 3) arr (q_fv G S f i j k :: rest))) :
    W p l e R s m args below meth c H locs 0 0 Q (F0 m pc arr (.ref (G.1 f i) :: rest)) := by
  obtain ⟨hx, hb, hml, hown, hts, hW, hR, hfo, hE⟩ := X
  have hfo := hfo f
  unfold q_fo q_fk q_ci at *
  cases hfam : q_fam f with
  | inr q => simp [hfam] at hk
  | inl q =>
    obtain ⟨C, T, N, ty, h1, h2, h3, h4, h5, h6, h7⟩ := hfo q hfam
    simp only [hfam] at hk hmem
    have hjl : j < q.2.length := (List.getElem?_eq_some_iff.mp hk).1
    have hP : va_P G.2.2 vwCl [(G.1 f i, .inr (q.1, q_fvs G S f i 0 q.2))] H := fun k9 q9 h9 => by
      have : k9 = 0 := by have := (List.getElem?_eq_some_iff.mp h9).1; simp at this; exact this
      subst this
      cases h9
      have := hH.1 f i hi
      unfold q_cel at this
      rw [hfam] at this
      exact this
    have hl := hK.1 _ hmem
    unfold q_cpok at hl
    have hl := hl C T N h1
    exact va_get (D := G.2.2) (ci := q.1) (ref := C) (C := C) (T := T) (N := N) (Ts := q_TB) hx hb hts h3 hown hW.1 hP 0 rfl h1 j (h2 ▸ hjl) (hts _ hl) (fun x hx => by rw [h6 j (h2 ▸ hjl)] at hx; exact hx) (by rw [q_fvs_get, hk, Nat.zero_add]; rfl) hd kk
/-- writing a field -/
theorem q_write (X : q_Cx mt p l R s m args c G cc nL own d) {H : Heap} {locs : List Loc} {arr : Array Slot} {K : qK} (hK : q_kok mt own K) (hH : q_H G S H) (hS : va_S (q_A G) s.heap H locs) {f i j idx : Nat} {k : Nat × Nat × Nat × Nat} (hi : i < q_cnt f) (hk : q_fk f j = some k)
    (hmem : (idx, 0, q_ci f, j) ∈ K.1) (hd : decode cc pc = .ok (.putfield idx, 3)) {rest : List Value} {v : Value} {S' : qSt} (hv : q_fv G S' f i j k = v)
    (hne : ∀ g i' j' k', ¬ (g = f ∧ i' = i ∧ j' = j) → q_fk g j' = some k' → q_fv G S' g i' j' k' = q_fv G S g i' j' k') (hI : ∀ g i', ¬ (g = f ∧ i' = i) → q_I S' g i' = q_I S g i') (hL : ∀ g i', ¬ (g = f ∧ i' = i) → q_L S' g i' = q_L S g i')
    (hM : ∀ g j k h x, j < q_cnt g → q_fk g k = some (4, h, x) → q_M S' g j k < q_cnt h)
    (hty : ∀ ty, (k.1 = 0 → ty = .int) ∧ (k.1 = 1 → ty = .long) ∧ (k.1 = 2 → ty = .boolean) ∧ (k.1 = 4 → ∃ n, ty = .object n) → narrow ty v = v ∧ fits ty v = true) (hk3 : k.1 ≠ 3)
    (kk : ∀ H' locs', q_H G S' H' → va_S (q_A G) s.heap H' locs' → W p l e R s m args below meth c H' locs' 0 0 Q (F0 m (pc + 3) arr rest)) :
    W p l e R s m args below meth c H locs 0 0 Q (F0 m pc arr (v :: .ref (G.1 f i) :: rest)) := by
  obtain ⟨hx, hb, hml, hown, hts, hW, hR, hfo, hE⟩ := X
  have hfo := hfo f
  have hk0 := hk
  unfold q_fo q_fk q_ci at *
  cases hfam : q_fam f with
  | inr q => simp [hfam] at hk
  | inl q =>
    obtain ⟨C, T, N, ty, h1, h2, h3, h4, h5, h6, h7⟩ := hfo q hfam
    simp only [hfam] at hk hmem
    have hjl : j < q.2.length := (List.getElem?_eq_some_iff.mp hk).1
    have hjN : j < N := h2 ▸ hjl
    obtain ⟨t0, t1, t2, t4, t5⟩ := h7 j k hk
    have hfin : (T j).2.2.2 = false := by
      have : k.1 = 0 ∨ k.1 = 1 ∨ k.1 = 2 ∨ k.1 = 4 := by omega
      rcases this with h | h | h | h
      · exact (t0 h).2
      · exact (t1 h).2
      · exact (t2 h).2
      · exact (t4 h).2
    have hnf := hty (ty j) ⟨fun h => (t0 h).1, fun h => (t1 h).1, fun h => (t2 h).1, fun h => (t4 h).1⟩
    have hat := hH.1 f i hi
    unfold q_cel at hat
    rw [hfam] at hat
    obtain ⟨r, g1, cell, q1, q2, q3, q4⟩ := hat
    have hr : r = (C, T, N) := Option.some.inj (g1.symm.trans h1)
    subst hr
    have hl := hK.1 _ hmem
    unfold q_cpok at hl
    have hlink := hts _ (hl C T N h1)
    have hap := va_apart (own := own) (D := G.2.2) (tys := []) (s := s) (args := args) hts h3 ty h4 h5 hW.1 h1
    obtain ⟨hSl, hfc, kC, hkC, hkind⟩ := hW.1.1 q.1 _ h1
    obtain ⟨cf, kf, fi, fd, hif, hsl⟩ := hSl j hjN
    have hlay := hts _ (h3 _ (u_in_lay hjN))
    unfold u_lay at hlay
    rw [if_neg (by rw [hfin]; decide)] at hlay
    have hst := (u_facts hfc hkC (u_lays hts h3 hjN) hif).1
    have h6' := u_store hfc hkC hkind hlay hif (h4 j hjN) hnf.1 hnf.2
    have hif' := hif
    rw [h6 j hjN] at hif'
    refine W.putK hx hb (f := fd) ⟨hown, hlink, ⟨_, _, _, hif'⟩, hst⟩ (by rw [q2]; exact h6') q1 q3 (by rw [hsl]; exact k2_hasslot (q4 j hjN)) rfl rfl hd fun H' e1 e2 e3 => ?_
    rw [hsl] at e1 ⊢
    refine kk H' _ (q_cel_set hW hH hi ?_ ?_ e3 hM) (hS.put e2 e3 ⟨f, i, hi, rfl⟩)
    · unfold q_cel
      rw [hfam]
      refine ⟨_, h1, t_OB.to (V := updV (vp_V (q_fvs G S f i 0 q.2)) j v) ⟨_, e1, q2, q3, t_set q4 hap hjN v⟩ (fun j' hj' => ?_)⟩
      unfold vp_V
      by_cases ej : j' = j
      · subst ej
        simp only [updV, if_pos]
        rw [List.getD_eq_getElem?_getD, q_fvs_get, hk, Nat.zero_add]
        exact hv.symm
      · simp only [updV, if_neg ej]
        rw [List.getD_eq_getElem?_getD, List.getD_eq_getElem?_getD, q_fvs_get, q_fvs_get]
        have hj'l : j' < q.2.length := by rw [h2]; exact hj'
        rw [List.getElem?_eq_getElem hj'l]
        simp only [Option.map_some, Option.getD_some, Nat.zero_add]
        refine (hne f i j' _ (fun h => ej h.2.2) ?_).symm
        rw [hfam]
        exact List.getElem?_eq_getElem hj'l
    · intro g i' hgi
      unfold q_cel
      cases hg : q_fam g with
      | inl y =>
        have : q_fvs G S' g i' 0 y.2 = q_fvs G S g i' 0 y.2 := by
          apply List.ext_getElem?
          intro n
          rw [q_fvs_get, q_fvs_get]
          cases hy : y.2[n]? with
          | none => rfl
          | some k' =>
            simp only [Option.map_some, Nat.zero_add]
            exact congrArg some (hne g i' n k' (fun h => hgi ⟨h.1, h.2.1⟩) (by rw [hg]; exact hy))
        simp only [this]
      | inr y =>
        obtain ⟨a, n, b⟩ := y
        have a1 := hI g i' hgi
        have a2 := hL g i' hgi
        rcases a with _ | _ | _ | a <;> simp only [a1, a2]
end QT
section QT2
variable {mt : Nat → Option qM} {p : Program} {l : Launch} {e : Env} {R : Room} {s : State} {m : MethodId} {args : Array Value} {below : List Frame} {meth : Method} {c : Code} {Q : State → Prop} {G : qG} {cc : ByteArray} {nL : Nat} {own : String} {d : Nat}
variable {pc : Nat} {ls : qLs} {st : List qV} {S : qSt} {H : Heap} {locs : List Loc} {arr : Array Slot} {rest : List Value}
theorem q_one {a : Nat} {x : va_E} (h : va_at G.2.2 vwCl (a, x) H) : va_P G.2.2 vwCl [(a, x)] H := fun k9 q9 h9 => by
  have : k9 = 0 := by have := (List.getElem?_eq_some_iff.mp h9).1; simp at this; exact this
  subst this
  cases h9
  exact h
theorem q_fam_of {f k : Nat} (h : q_ak f = k) (hk : k < 9) : ∃ n g c0 c1, q_fam f = .inr (k, n, g, c0, c1) ∧ q_al f = n := by
  unfold q_ak at h
  unfold q_al
  cases hf : q_fam f with
  | inl q => rw [hf] at h; dsimp only at h; omega
  | inr q =>
    obtain ⟨k', n, g, c0, c1⟩ := q
    rw [hf] at h
    dsimp only at h
    subst h
    exact ⟨n, g, c0, c1, rfl, rfl⟩
theorem q_cel0 {f i : Nat} (h : q_ak f = 0) : q_cel G S f i = .inl (G.2.1 f i, q_al f, .inl (q_I S f i)) := by
  obtain ⟨n, g, c0, c1, h1, h2⟩ := q_fam_of h (by decide)
  unfold q_cel
  rw [h1, h2]
  rfl
theorem q_cel1 {f i : Nat} (h : q_ak f = 1) : q_cel G S f i = .inl (G.2.1 f i, q_al f, .inl (q_I S f i)) := by
  obtain ⟨n, g, c0, c1, h1, h2⟩ := q_fam_of h (by decide)
  unfold q_cel
  rw [h1, h2]
  rfl
theorem q_cel2 {f i : Nat} (h : q_ak f = 2) : q_cel G S f i = .inl (G.2.1 f i, q_al f, .inr (.inl (q_L S f i))) := by
  obtain ⟨n, g, c0, c1, h1, h2⟩ := q_fam_of h (by decide)
  unfold q_cel
  rw [h1, h2]
  rfl
theorem q_arr0 {f i : Nat} (hH : q_H G S H) (hi : i < q_cnt f) (h : q_ak f = 0) : va_P G.2.2 vwCl [(G.1 f i, .inl (G.2.1 f i, q_al f, .inl (q_I S f i)))] H := q_one (q_cel0 (G := G) (S := S) h ▸ hH.1 f i hi)
theorem q_arr1 {f i : Nat} (hH : q_H G S H) (hi : i < q_cnt f) (h : q_ak f = 1) : va_P G.2.2 vwCl [(G.1 f i, .inl (G.2.1 f i, q_al f, .inl (q_I S f i)))] H := q_one (q_cel1 (G := G) (S := S) h ▸ hH.1 f i hi)
theorem q_arr2 {f i : Nat} (hH : q_H G S H) (hi : i < q_cnt f) (h : q_ak f = 2) : va_P G.2.2 vwCl [(G.1 f i, .inl (G.2.1 f i, q_al f, .inr (.inl (q_L S f i))))] H := q_one (q_cel2 (G := G) (S := S) h ▸ hH.1 f i hi)
theorem q_big {f : Nat} (hf : 81 ≤ f) : q_fam f = .inr (9, 0, 0, 0, 0) := by
  obtain ⟨n, rfl⟩ : ∃ n, f = n + 81 := ⟨f - 81, by omega⟩
  rfl
theorem q_all {P : Nat → Prop} (h : ∀ f, f < 81 → P f) (h2 : ∀ f, 81 ≤ f → P f) (f : Nat) : P f := (Nat.lt_or_ge f 81).elim (h f) (h2 f)
theorem q_fk_lt {f j : Nat} {k : Nat × Nat × Nat × Nat} (h : q_fk f j = some k) : f < 97 := Nat.lt_of_not_le fun q => by
  unfold q_fk at h
  rw [q_big (show 81 ≤ f by omega)] at h
  cases h
theorem q_ak_lt {f : Nat} (h : q_ak f < 4) : f < 97 := Nat.lt_of_not_le fun q => by
  rw [q_ak, q_big (show 81 ≤ f by omega)] at h
  exact absurd h (by decide)
theorem q_okA {f i : Nat} (h : q_ok (.inr (.inr (f, i)))) (hf : f < 97) : i < q_cnt f := h.elim id (fun q => absurd (show 97 ≤ f from q.1) (by omega))
theorem q_ok99 {f i : Nat} (h : q_ok (.inr (.inr (f, i)))) (hf : 97 ≤ f) : i < 20 := h.elim (fun q => by
  obtain ⟨n, rfl⟩ : ∃ n, f = n + 81 := ⟨f - 81, by omega⟩
  exact absurd (show i < 0 from q) (Nat.not_lt_zero i)) (fun q => q.2)
theorem q_sref_lt : ∀ x ∈ q_sref, x.2.2 < 20 := by decide
theorem q_ck44 {mt : Nat → Option qM} {nL a n r9 pc' f : Nat} {ret : Option FieldType} {z w1 : Int32} {zl : Int64} (hc : q_ckx mt nL ret (44, pc', a, n, r9, z, zl, [(w1, f)]) = true) : f < 97 := Nat.lt_of_not_le fun q => by
  have hc : (match vwCl[q_ci f]?, mt a with
    | some r, some q => decide (r.1 = q.1.cls)
    | _, _ => false) = true := hc
  unfold q_ci at hc
  rw [q_big (show 81 ≤ f by omega)] at hc
  have e : vwCl[99]? = none := rfl
  simp only [e] at hc
  cases hc
theorem q_aty0 : ∀ {f : Nat}, q_ak f = 0 → q_aty f = .int := by
  refine fun {f} => q_all (P := fun f => q_ak f = 0 → q_aty f = .int) (by decide +kernel) (fun f hf h => ?_) f
  rw [q_ak, q_big hf] at h
  cases h
theorem q_aty1 : ∀ {f : Nat}, q_ak f = 1 → q_aty f = .byte := by
  refine fun {f} => q_all (P := fun f => q_ak f = 1 → q_aty f = .byte) (by decide +kernel) (fun f hf h => ?_) f
  rw [q_ak, q_big hf] at h
  cases h
theorem q_aty2 : ∀ {f : Nat}, q_ak f = 2 → q_aty f = .long := by
  refine fun {f} => q_all (P := fun f => q_ak f = 2 → q_aty f = .long) (by decide +kernel) (fun f hf h => ?_) f
  rw [q_ak, q_big hf] at h
  cases h
def q_isR (t : FieldType) : Bool := match t with
  | .object _ => true
  | .array _ => true
  | _ => false
theorem q_atyR : ∀ f : Nat, q_ak f = 3 → q_isR (q_aty f) = true := by
  refine fun f => q_all (P := fun f => q_ak f = 3 → q_isR (q_aty f) = true) (by decide +kernel) (fun f hf h => ?_) f
  rw [q_ak, q_big hf] at h
  cases h
def q_fin (f : Nat) : Bool := match q_fam f with
  | .inr (3, n, g, c0, c1) => (List.range (q_cnt f)).all (fun i => decide (c0 + c1 * i + n ≤ q_cnt g))
  | _ => true
theorem q_far (f i n g c0 c1 j : Nat) (hf : q_fam f = .inr (3, n, g, c0, c1)) (hi : i < q_cnt f) (hj : j < n) : c0 + c1 * i + j < q_cnt g := by
  have h : q_fin f = true := by
    refine q_all (P := fun f => q_fin f = true) (by decide +kernel) (fun f hf => ?_) f
    rw [q_fin, q_big hf]
    rfl
  unfold q_fin at h
  rw [hf] at h
  have h := of_decide_eq_true (List.all_eq_true.mp h i (List.mem_range.mpr hi))
  omega
theorem q_arrK {f i : Nat} {ty : FieldType} (hW : q_W G s) (hi : i < q_cnt f) (hk : q_ak f < 4) (ht : q_aty f = ty) : va_K G.2.2 vwCl [(G.2.1 f i, ty)] s := by
  refine ⟨hW.1.1, fun k q h => ?_⟩
  have : k = 0 := by have := (List.getElem?_eq_some_iff.mp h).1; simp at this; exact this
  subst this
  cases h
  exact ht ▸ hW.2.1 f i hi hk
theorem q_aald (hx : p.tables.exec = Jvm.exec) (hb : c.code = cc) {f i0 n : Nat} {F : Nat → Option Nat} (hP : va_P G.2.2 vwCl [(G.1 f i0, .inl (G.2.1 f i0, n, .inr (.inr (.inr (.inr F)))))] H) (hW : q_W G s) (hi : i0 < q_cnt f) (hk : q_ak f < 4) (hR : q_isR (q_aty f) = true) {y : Int32} (hin : vp_in y n) (hd : decode cc pc = .ok (.aaload, 1))
    (kk : W p l e R s m args below meth c H locs 0 0 Q (F0 m (pc + 1) arr (va_rf (F y.toNatClampNeg) :: rest))) : W p l e R s m args below meth c H locs 0 0 Q (F0 m pc arr (.int y :: .ref (G.1 f i0) :: rest)) := by
  have hlt : y.toNatClampNeg < n := Nat.not_le.mp fun q => hin (Or.inr q)
  have hA := (hW.2.1 f i0 hi hk).1
  cases ht : q_aty f with
  | object C =>
    rw [ht] at hA
    exact W.aald (v := va_rf (F y.toNatClampNeg)) (ty := .object C) hx hb (hP 0 _ rfl) (hA n (fun j => va_rf (F j))) rfl (fun q => by cases q) (by show ¬ (y < 0 ∨ (arrV _ _ _).slots.size ≤ _); rw [arrV_size]; exact hin) (by show (arrV _ _ _).slots[_]? = _; rw [arrV_read _ _ hlt]) rfl rfl hd kk
  | array C =>
    rw [ht] at hA
    exact W.aald (v := va_rf (F y.toNatClampNeg)) (ty := .array C) hx hb (hP 0 _ rfl) (hA n (fun j => va_rf (F j))) rfl (fun q => by cases q) (by show ¬ (y < 0 ∨ (arrV _ _ _).slots.size ≤ _); rw [arrV_size]; exact hin) (by show (arrV _ _ _).slots[_]? = _; rw [arrV_read _ _ hlt]) rfl rfl hd kk
  | _ => rw [ht] at hR; cases hR
theorem q_alen (hx : p.tables.exec = Jvm.exec) (hb : c.code = cc) (hW : q_W G s) (hH : q_H G S H) {f i0 : Nat} (hi : i0 < q_cnt f) (hk : q_ak f < 4) (hd : decode cc pc = .ok (.arraylength, 1))
    (kk : W p l e R s m args below meth c H locs 0 0 Q (F0 m (pc + 1) arr (.int (Int32.ofNat (q_al f)) :: rest))) : W p l e R s m args below meth c H locs 0 0 Q (F0 m pc arr (.ref (G.1 f i0) :: rest)) := by
  have hKa := q_arrK hW hi hk rfl
  have h0 := hH.1 f i0 hi
  obtain ⟨n, g, c0, c1, h1, h2⟩ := q_fam_of (f := f) rfl (by omega)
  have hP : ∃ x : vp_A, x.1 = q_al f ∧ va_P G.2.2 vwCl [(G.1 f i0, .inl (G.2.1 f i0, x))] H := by
    unfold q_cel at h0
    rw [h1] at h0
    rw [h2]
    generalize q_ak f = k at *
    match k, h0 with
    | 0, h0 => exact ⟨_, rfl, q_one h0⟩
    | 1, h0 => exact ⟨_, rfl, q_one h0⟩
    | 2, h0 => exact ⟨_, rfl, q_one h0⟩
    | k + 3, h0 => exact ⟨_, rfl, q_one h0⟩
  obtain ⟨x, hx1, hP⟩ := hP
  exact va_alen (D := G.2.2) (x := x) (tys := [(G.2.1 f i0, q_aty f)]) hx hb hKa hP 0 0 rfl rfl (by rw [hx1]) hd kk
theorem q_oth {S' : qSt} {f i : Nat} (hk : q_ak f < 4) (hI : ∀ g j, ¬ (g = f ∧ j = i) → q_I S' g j = q_I S g j) (hL : ∀ g j, ¬ (g = f ∧ j = i) → q_L S' g j = q_L S g j) (hM : q_M S' = q_M S) : ∀ g j, ¬ (g = f ∧ j = i) → q_cel G S' g j = q_cel G S g j := by
  intro g j hne
  have a1 := hI g j hne
  have a2 := hL g j hne
  unfold q_cel
  cases hg : q_fam g with
  | inl y =>
    have : q_fvs G S' g j 0 y.2 = q_fvs G S g j 0 y.2 := by
      apply List.ext_getElem?
      intro n
      rw [q_fvs_get, q_fvs_get]
      cases hy : y.2[n]? with
      | none => rfl
      | some k' =>
        simp only [Option.map_some, Nat.zero_add]
        unfold q_fv
        rw [a1, a2, hM]
    simp only [this]
  | inr y =>
    obtain ⟨a, n, b⟩ := y
    rcases a with _ | _ | _ | a <;> simp only [a1, a2]
theorem q_updI {f i j : Nat} {v : Int32} : q_I (q_wI S f i j v) f i = upd (q_I S f i) j v := by
  funext k
  rw [q_I_wI]
  simp [upd]
theorem q_updL {f i j : Nat} {v : Int64} : q_L (q_wL S f i j v) f i = vp_updL (q_L S f i) j v := by
  funext k
  rw [q_L_wL]
  simp [vp_updL]
theorem q_othI {f i j : Nat} {v : Int32} : ∀ g k, ¬ (g = f ∧ k = i) → q_I (q_wI S f i j v) g k = q_I S g k := fun g k h => by
  funext n
  rw [q_I_wI, if_neg (fun q => h ⟨q.1, q.2.1⟩)]
theorem q_othL {f i j : Nat} {v : Int64} : ∀ g k, ¬ (g = f ∧ k = i) → q_L (q_wL S f i j v) g k = q_L S g k := fun g k h => by
  funext n
  rw [q_L_wL, if_neg (fun q => h ⟨q.1, q.2.1⟩)]
theorem q_store0 (hx : p.tables.exec = Jvm.exec) (hb : c.code = cc) (hW : q_W G s) (hH : q_H G S H) (hS : va_S (q_A G) s.heap H locs) {f i0 : Nat} (hi : i0 < q_cnt f) (hk : q_ak f = 0) {y v : Int32} (hin : vp_in y (q_al f)) (hd : decode cc pc = .ok (.iastore, 1))
    (kk : ∀ H' locs', q_H G (q_wI S f i0 y.toNatClampNeg v) H' → va_S (q_A G) s.heap H' locs' → W p l e R s m args below meth c H' locs' 0 0 Q (F0 m (pc + 1) arr rest)) : W p l e R s m args below meth c H locs 0 0 Q (F0 m pc arr (.int v :: .int y :: .ref (G.1 f i0) :: rest)) := by
  have hA := (hW.2.1 f i0 hi (by omega)).1
  rw [q_aty0 hk] at hA
  have h0 := hH.1 f i0 hi
  rw [q_cel0 hk] at h0
  refine W.iast hx hb h0 (hA (q_al f) (fun j => .int (q_I S f i0 j))) (fun q => by cases q) (by show ¬ (y < 0 ∨ (arrV _ _ _).slots.size ≤ _); rw [arrV_size]; exact hin) rfl rfl hd fun H1 e z oq => ?_
  refine kk H1 _ (q_cel_set hW hH hi ?_ (q_oth (by omega) q_othI (fun _ _ _ => rfl) rfl) oq (fun g j k h x hj hk => hH.2 g j k h x hj hk)) (hS.put z oq ⟨f, i0, hi, rfl⟩)
  rw [q_cel0 hk, q_updI]
  show H1[G.1 f i0]? = some (vp_cell _ _)
  rw [e]
  rw [vp_cell_i, vp_cell_i, arrV_store]
  congr 2
  funext q
  by_cases hq : q = y.toNatClampNeg
  · subst hq
    simp [updV, upd]
  · simp [updV, upd, hq]
theorem q_store1 (hx : p.tables.exec = Jvm.exec) (hb : c.code = cc) (hW : q_W G s) (hH : q_H G S H) (hS : va_S (q_A G) s.heap H locs) {f i0 : Nat} (hi : i0 < q_cnt f) (hk : q_ak f = 1) {y v : Int32} (hin : vp_in y (q_al f)) (hd : decode cc pc = .ok (.bastore, 1))
    (kk : ∀ H' locs', q_H G (q_wI S f i0 y.toNatClampNeg v.toInt8.toInt32) H' → va_S (q_A G) s.heap H' locs' → W p l e R s m args below meth c H' locs' 0 0 Q (F0 m (pc + 1) arr rest)) : W p l e R s m args below meth c H locs 0 0 Q (F0 m pc arr (.int v :: .int y :: .ref (G.1 f i0) :: rest)) := by
  have hA := (hW.2.1 f i0 hi (by omega)).1
  rw [q_aty1 hk] at hA
  have h0 := hH.1 f i0 hi
  rw [q_cel1 hk] at h0
  refine W.bast hx hb h0 (hA (q_al f) (fun j => .int (q_I S f i0 j))) (fun q => by cases q) (by show ¬ (y < 0 ∨ (arrV _ _ _).slots.size ≤ _); rw [arrV_size]; exact hin) rfl rfl hd fun H1 e z oq => ?_
  refine kk H1 _ (q_cel_set hW hH hi ?_ (q_oth (by omega) q_othI (fun _ _ _ => rfl) rfl) oq (fun g j k h x hj hk => hH.2 g j k h x hj hk)) (hS.put z oq ⟨f, i0, hi, rfl⟩)
  rw [q_cel1 hk, q_updI]
  show H1[G.1 f i0]? = some (vp_cell _ _)
  rw [e]
  rw [vp_cell_i, vp_cell_i, arrV_store]
  congr 2
  funext q
  by_cases hq : q = y.toNatClampNeg
  · subst hq
    simp [updV, upd, narrow]
  · simp [updV, upd, hq]
theorem q_store2 (hx : p.tables.exec = Jvm.exec) (hb : c.code = cc) (hW : q_W G s) (hH : q_H G S H) (hS : va_S (q_A G) s.heap H locs) {f i0 : Nat} (hi : i0 < q_cnt f) (hk : q_ak f = 2) {y : Int32} {v : Int64} (hin : vp_in y (q_al f)) (hd : decode cc pc = .ok (.lastore, 1))
    (kk : ∀ H' locs', q_H G (q_wL S f i0 y.toNatClampNeg v) H' → va_S (q_A G) s.heap H' locs' → W p l e R s m args below meth c H' locs' 0 0 Q (F0 m (pc + 1) arr rest)) : W p l e R s m args below meth c H locs 0 0 Q (F0 m pc arr (.long v :: .int y :: .ref (G.1 f i0) :: rest)) := by
  have hA := (hW.2.1 f i0 hi (by omega)).1
  rw [q_aty2 hk] at hA
  have h0 := hH.1 f i0 hi
  rw [q_cel2 hk] at h0
  refine W.last hx hb h0 (hA (q_al f) (fun j => .long (q_L S f i0 j))) (fun q => by cases q) (by show ¬ (y < 0 ∨ (arrV _ _ _).slots.size ≤ _); rw [arrV_size]; exact hin) rfl rfl hd fun H1 e z oq => ?_
  refine kk H1 _ (q_cel_set hW hH hi ?_ (q_oth (by omega) (fun _ _ _ => rfl) q_othL rfl) oq (fun g j k h x hj hk => hH.2 g j k h x hj hk)) (hS.put z oq ⟨f, i0, hi, rfl⟩)
  rw [q_cel2 hk, q_updL]
  show H1[G.1 f i0]? = some (vp_cell _ _)
  rw [e]
  rw [vp_cell_l, vp_cell_l, arrV_store]
  congr 2
  funext q
  by_cases hq : q = y.toNatClampNeg
  · subst hq
    simp [updV, vp_updL]
  · simp [updV, vp_updL, hq]
theorem q_w_map {st : List qV} : ((st.map (q_cv G)).map fun v => v.category).sum = q_w st := by
  induction st with
  | nil => rfl
  | cons v r ih =>
    rcases v with x | x | x <;> simp only [List.map_cons, List.sum_cons, ih] <;> rfl
end QT2
section QT3
variable {mt : Nat → Option qM} {p : Program} {l : Launch} {e : Env} {R : Room} {s : State} {m : MethodId} {args : Array Value} {below : List Frame} {meth : Method} {c : Code} {Q : State → Prop} {G : qG} {cc : ByteArray} {nL : Nat} {own : String} {d : Nat}
variable {pc : Nat} {ls : qLs} {st : List qV} {S : qSt} {H : Heap} {locs : List Loc} {arr : Array Slot} {rest : List Value}
theorem q_call_elim {k rt : Nat} {as : List qV} {K : List qV → qSt → Prop} (h : q_call mt l d k rt as S K) : ∃ d' post, d' < d ∧ q_Met mt l d' k rt as S post ∧ ∀ r S', q_ty rt r → post r S' → K r.toList S' := by
  unfold q_call at h
  match rt, h with
  | 0, ⟨d', post, h1, h2, h3⟩ => exact ⟨d', post, h1, h2, fun r S' hr hp => by cases (show r = none from hr); exact h3 S' hp⟩
  | 1, ⟨d', post, h1, h2, h3⟩ => exact ⟨d', post, h1, h2, fun r S' hr hp => by obtain ⟨x, rfl⟩ : ∃ x, r = some (.inl x) := hr; exact h3 x S' hp⟩
  | 2, ⟨d', post, h1, h2, h3⟩ => exact ⟨d', post, h1, h2, fun r S' hr hp => by obtain ⟨x, rfl⟩ : ∃ x, r = some (.inr (.inl x)) := hr; exact h3 x S' hp⟩
  | n + 3, ⟨d', post, h1, h2, h3⟩ => exact ⟨d', post, h1, h2, fun r S' hr hp => by obtain ⟨x, rfl, -⟩ : ∃ i, r = some (.inr (.inr (n, i))) ∧ i < q_cnt n := hr; exact h3 x S' hp⟩
theorem q_after {rt : Nat} {post : Option qV → qSt → Prop} {a : Array Value} {st0 : List Value} (hr : va_Run p l e R s m args below meth c H locs 0 0 0 0 (F0 m pc arr st0) rest (q_Qc G rt post a) (q_A G)) (hS : va_S (q_A G) s.heap H locs)
    (kk : ∀ r S' H1 locs1, q_ty rt r → post r S' → q_H G S' H1 → va_S (q_A G) s.heap H1 locs1 → W p l e R s m args below meth c H1 locs1 0 0 Q (F0 m (pc + 3) arr ((r.map (q_cv G)).toList ++ rest))) : W p l e R s m args below meth c H locs 0 0 Q (F0 m pc arr st0) := by
  intro T hT X
  obtain ⟨v, st₀, t, T', L, h0, X', hL, e1, e2, ⟨⟨r, S', hv, hty, hp, hh, hw⟩, hz, hk⟩, st⟩ := hr T hT X
  cases hv
  rw [h0] at hz hk
  obtain ⟨t2, a1, b1⟩ := kk r S' T'.heap (locs ++ L) hty hp (by rw [e1]; exact hh)
    ⟨Nat.le_trans hS.1 (by rw [e1]; exact hz), fun q h1 h2 => by rw [e1, hk q (Nat.lt_of_lt_of_le h1 hS.1) h2]; exact hS.2.1 q h1 h2, fun q hq => by
      rcases List.mem_append.mp hq with h | h
      · exact hS.2.2 q h
      · exact hL q h⟩ T' rfl X'
  exact ⟨t2, st t2 a1, b1⟩
theorem q_back {r : Option qV} {st : List qV} {H1 : Heap} {locs1 : List Loc} (h : W p l e R s m args below meth c H1 locs1 0 0 Q (F0 m pc arr ((r.toList ++ st).map (q_cv G)))) : W p l e R s m args below meth c H1 locs1 0 0 Q (F0 m pc arr ((r.map (q_cv G)).toList ++ st.map (q_cv G))) := by
  cases r <;> exact h
theorem q_callB {y : qM} {own : String} {index n d' : Nat} (hts : ∀ w ∈ q_TB, w.before args s = true) (hlt : d' < d) (hR : R.frames = d ∧ R.locals = 200 * d) (w1 : Cond.methodLink own index y.1 ∈ q_TB) (w3 : Cond.initialized y.1.cls ∈ q_TB) (w4 : Cond.code y.1 y.2.1 y.2.2.1 y.2.2.2 ∈ q_TB)
    (hd : y.1.cls ≠ "java/lang/invoke/MethodHandle" ∧ y.1.cls ≠ "java/lang/invoke/VarHandle" ∧ (parseMethodDescriptor y.1.desc).map (fun d => d.parameters.length) = some n) (h150 : y.2.2.1 ≤ 150) : CallB R s args own index y.1 y.2.1 y.2.2.1 y.2.2.2 (q_ws y) (q_rm d') 0 0 n := by
  refine ⟨rfl, rfl, ?_, ?_, ?_, List.mem_cons_self, hts _ w4, hts _ w3, ⟨hd.1, hd.2.1⟩, fun sig h => ?_, hts _ w1⟩
  · show d' + 1 ≤ R.frames
    omega
  · show 8 + (y.2.2.1 + 11) + 200 * d' ≤ R.locals
    omega
  · intro w hw a' U hWm
    have hw : w ∈ q_TB := (List.mem_cons.mp hw).elim (fun e => e ▸ w4) id
    exact word_at hWm (good_of_word (q_TB_good hw).2) (hts w hw)
  · have h2 := hd.2.2
    rw [h] at h2
    exact (Option.some.inj h2).symm
theorem q_callN {y : qM} {own : String} {index n d' : Nat} (hts : ∀ w ∈ q_TB, w.before args s = true) (hlt : d' < d) (hR : R.frames = d ∧ R.locals = 200 * d) (w1 : va_Nw (.methodLinkNest own index y.1 "BlockedCars") s) (w3 : Cond.initialized y.1.cls ∈ q_TB) (w4 : Cond.code y.1 y.2.1 y.2.2.1 y.2.2.2 ∈ q_TB)
    (hd : y.1.cls ≠ "java/lang/invoke/MethodHandle" ∧ y.1.cls ≠ "java/lang/invoke/VarHandle" ∧ (parseMethodDescriptor y.1.desc).map (fun d => d.parameters.length) = some n) (h150 : y.2.2.1 ≤ 150) : va_CN R s args own index y.1 "BlockedCars" y.2.1 y.2.2.1 y.2.2.2 (q_ws y) (q_rm d') 0 0 n := by
  refine ⟨⟨rfl, rfl, ?_, ?_, ?_, List.mem_cons_self⟩, hts _ w4, hts _ w3, ⟨hd.1, hd.2.1⟩, fun sig h => ?_, va_Nw.use rfl w1⟩
  · show d' + 1 ≤ R.frames
    omega
  · show 8 + (y.2.2.1 + 11) + 200 * d' ≤ R.locals
    omega
  · intro w hw a' U hWm
    have hw : w ∈ q_TB := (List.mem_cons.mp hw).elim (fun e => e ▸ w4) id
    exact word_at hWm (good_of_word (q_TB_good hw).2) (hts w hw)
  · have h2 := hd.2.2
    rw [h] at h2
    exact (Option.some.inj h2).symm
theorem q_oks_args {st : List qV} {n : Nat} (h : q_oks st) : q_oks (st.take n).reverse := fun v hv => h v (List.mem_of_mem_take (List.mem_reverse.mp hv))
theorem q_oks_drop {st : List qV} {n : Nat} (h : q_oks st) : q_oks (st.drop n) := fun v hv => h v (List.mem_of_mem_drop hv)
theorem q_oks_res {rt : Nat} {r : Option qV} {st : List qV} (hr : q_ty rt r) (h : q_oks st) : q_oks (r.toList ++ st) := by
  intro v hv
  rcases List.mem_append.mp hv with h1 | h1
  · match rt, hr with
    | 0, hr => cases (show r = none from hr); cases h1
    | 1, hr => obtain ⟨x, rfl⟩ : ∃ x, r = some (.inl x) := hr; cases List.mem_singleton.mp h1; trivial
    | 2, hr => obtain ⟨x, rfl⟩ : ∃ x, r = some (.inr (.inl x)) := hr; cases List.mem_singleton.mp h1; trivial
    | n + 3, hr => obtain ⟨x, rfl, hx⟩ : ∃ i, r = some (.inr (.inr (n, i))) ∧ i < q_cnt n := hr; cases List.mem_singleton.mp h1; exact Or.inl hx
  · exact h v h1
theorem q_split {st : List qV} {n : Nat} (_hn : n ≤ st.length) : st.map (q_cv G) = ((st.take n).reverse.map (q_cv G)).reverse ++ (st.drop n).map (q_cv G) := by
  rw [← List.map_reverse, List.reverse_reverse, ← List.map_append, List.take_append_drop]
theorem lv_roomN {n : Nat} {ls : Array Slot} {st : List Value} (h : n ≤ 8) : 2 * (F0 m pc ls st).monitorRoom + n ≤ 8 := by
  show 2 * 0 + n ≤ 8
  omega
theorem q_recv (hW : q_W G s) (hfo : ∀ f, q_fo f) (hH : q_H G S H) {f i a n r9 : Nat} {pc' : Nat} {z : Int32} {zl : Int64} {w1 : Int32} {nL : Nat} {ret : Option FieldType} {q : qM} (hi : i < q_cnt f) (hq : mt a = some q) (hc : q_ckx mt nL ret (44, pc', a, n, r9, z, zl, [(w1, f)]) = true) : ∃ cellB : Cell, H[G.1 f i]? = some cellB ∧ cellB.vm.isStatics = false ∧ s.vm.findClass q.1.cls = some cellB.cls := by
  have hf := hfo f
  unfold q_fo at hf
  have hc : (match vwCl[q_ci f]?, mt a with
    | some r, some q => decide (r.1 = q.1.cls)
    | _, _ => false) = true := hc
  unfold q_ci at hc
  cases hfam : q_fam f with
  | inr y => rw [hfam, hq] at hc; cases hc
  | inl y =>
    obtain ⟨C, T, N, ty, h1, -⟩ := hf y hfam
    rw [hfam, hq] at hc
    dsimp only at hc
    rw [h1] at hc
    have hC : C = q.1.cls := of_decide_eq_true hc
    have h0 := hH.1 f i hi
    unfold q_cel at h0
    rw [hfam] at h0
    obtain ⟨r, g1, cell, q1, q2, q3, -⟩ := h0
    have hcls := (hW.1.1 y.1 _ h1).2
    exact ⟨cell, q1, by rw [q3]; rfl, by rw [q2, ← hC]; exact hcls.1⟩
theorem q_sw_elim {x : Int32} {J : Nat → Prop} {a : Nat} : ∀ {w : List (Int32 × Nat)}, q_sw x J a w → (∃ (j : Nat) (k : Int32) (b : Nat), w[j]? = some (k, b) ∧ k = x ∧ J b) ∨ ((∀ e ∈ w, x ≠ e.1) ∧ J a)
  | [], h => Or.inr ⟨fun e he => (by cases he), h⟩
  | (k, b) :: r, h => by
    by_cases hx : x = k
    · exact Or.inl ⟨0, k, b, rfl, hx.symm, h.1 hx⟩
    · rcases q_sw_elim (h.2 hx) with ⟨j, k', b', h1, h2, h3⟩ | ⟨h1, h2⟩
      · exact Or.inl ⟨j + 1, k', b', h1, h2, h3⟩
      · exact Or.inr ⟨fun e he => (List.mem_cons.mp he).elim (fun q => by rw [q]; exact hx) (h1 e), h2⟩
theorem q_sw_look {x : Int32} {J : Nat → Prop} {a pc : Nat} {B : List Nat} : ∀ {w : List (Int32 × Nat)}, q_sw x J a w → ∃ b, J b ∧ Op.lookupswitch.offset (w.map (fun e => (e.1.toInt, (q_bp B e.2 : Int) - pc))) ((q_bp B a : Int) - pc) x.toInt = (q_bp B b : Int) - pc
  | [], h => ⟨a, h, rfl⟩
  | (k, b) :: r, h => by
    by_cases hx : x = k
    · subst hx
      exact ⟨b, h.1 rfl, by simp [Op.lookupswitch.offset]⟩
    · obtain ⟨b', h1, h2⟩ := q_sw_look (pc := pc) (B := B) (h.2 hx)
      exact ⟨b', h1, by rw [List.map_cons, lv_osw hx rfl]; exact h2⟩
theorem q_acopy (hx : p.tables.exec = Jvm.exec) (hb : c.code = cc) (hml : c.maxLocals = arr.size) {own : String} {index : Nat} (hown : s.vm.findClass own = some m.cls) (hlink : (Cond.methodLink own index arraycopyName).before args s = true) (hts : ∀ w ∈ q_TB, w.before args s = true) (hW : q_W G s) (hH : q_H G S H) (hS : va_S (q_A G) s.heap H locs) {i j : Nat} (hi : i < q_cnt 27) (hj : j < q_cnt 27) (hij : ¬ i = j)
    (hframes : 1 ≤ R.frames) (hlocals : (rest.map fun v => v.category).sum + 100 ≤ R.locals) (hd : decode cc pc = .ok (.invokestatic index, 3))
    (kk : ∀ H' locs', q_H G (q_cp6 S i j) H' → va_S (q_A G) s.heap H' locs' → W p l e R s m args below meth c H' locs' 0 0 Q (F0 m (pc + 3) arr rest)) : W p l e R s m args below meth c H locs 0 0 Q (F0 m pc arr (.int 6 :: .int 0 :: .ref (G.1 27 j) :: .int 0 :: .ref (G.1 27 i) :: rest)) := by
  have hA0 := (hW.2.1 27 i hi (by decide)).1
  have hA1 := (hW.2.1 27 j hj (by decide)).1
  have k0 : q_ak 27 = 0 := rfl
  rw [q_aty0 k0] at hA0 hA1
  have hc0 : H[G.1 27 i]? = some (vp_cell (G.2.1 27 i) (6, .inl (q_I S 27 i))) := hH.1 27 i hi
  have hc1 : H[G.1 27 j]? = some (vp_cell (G.2.1 27 j) (6, .inl (q_I S 27 j))) := hH.1 27 j hj
  intro T hT X
  obtain ⟨-, k0, hk0, cm0, hkk0⟩ := hA0 6 (fun z => .int (q_I S 27 i z))
  obtain ⟨-, k1, hk1, cm1, hkk1⟩ := hA1 6 (fun z => .int (q_I S 27 j z))
  obtain ⟨vm', X', step⟩ := X.arraycopy hx hown hlink (hts _ q_ac.1) (hts _ q_ac.2.1) (hts _ q_ac.2.2) (src := G.1 27 i) (dst := G.1 27 j) (cs := vp_cell (G.2.1 27 i) (6, .inl (q_I S 27 i))) (cd := vp_cell (G.2.1 27 j) (6, .inl (q_I S 27 j))) (srcPos := 0) (destPos := 0) (n := 6) (by rw [hT]; exact hc0) (by rw [hT]; exact hc1)
    (fun _ h => by cases h) (fun _ h => by cases h) (fun h => by cases h) (fun h => by cases h) hk0 hk1 hkk0 hkk1 (by simp [refKind]) (by decide) (by decide) (by decide)
    (by show ¬ _ > ((arrV (G.2.1 27 i) 6 (fun z => .int (q_I S 27 i z))).slots.size : Int); rw [arrV_size]; decide)
    (by show ¬ _ > ((arrV (G.2.1 27 j) 6 (fun z => .int (q_I S 27 j z))).slots.size : Int); rw [arrV_size]; decide)
    (fun vm₁ _ z hz => by
      have hz : z < 6 := hz
      have e : (vp_cell (G.2.1 27 i) (6, .inl (q_I S 27 i))).slots.getD ((0 : Int32).toNatClampNeg + z) .null = .int (q_I S 27 i ((0 : Int32).toNatClampNeg + z)) := by
        show (arrV (G.2.1 27 i) 6 (fun w => .int (q_I S 27 i w))).slots.getD _ _ = _
        rw [Array.getD_eq_getD_getElem?, arrV_read _ _ (by rw [sb_cl0]; omega)]
        rfl
      refine ⟨?_, ?_⟩
      · rw [e]
        rfl
      · rw [e]
        exact trivial)
    (g := F0 m pc arr (.int 6 :: .int 0 :: .ref (G.1 27 j) :: .int 0 :: .ref (G.1 27 i) :: rest)) rfl (by rw [hml]) (rest := rest) rfl (by rw [hb]; exact hd) hframes (by show 2 * 0 + _ + _ ≤ _; rw [show nativeFrameWords "java/lang/System" "arraycopy" 5 = 7 from rfl]; omega)
  have e1 : copied (vp_cell (G.2.1 27 i) (6, .inl (q_I S 27 i))) (vp_cell (G.2.1 27 j) (6, .inl (q_I S 27 j))) 0 0 6 = vp_cell (G.2.1 27 j) (6, .inl (va_cpy (q_I S 27 i) (q_I S 27 j) 0 0 6)) := va_copied (fun z => .int z) _ _ _ _ (show (0 : Int32).toNatClampNeg + (6 : Int32).toNatClampNeg ≤ 6 by decide)
  rw [e1] at X' step
  have hl : G.1 27 j < H.size := (Array.getElem?_eq_some_iff.mp hc1).1
  generalize hcv : vp_cell (G.2.1 27 j) (6, .inl (va_cpy (q_I S 27 i) (q_I S 27 j) 0 0 6)) = cv at X' step
  have hheap : ((T.setVm vm').setCell (G.1 27 j) cv).heap = H.setIfInBounds (G.1 27 j) cv := by rw [← hT]; rfl
  have oq : ∀ q : Nat, q ≠ G.1 27 j → (H.setIfInBounds (G.1 27 j) cv)[q]? = H[q]? := fun q hq => by simp [Array.getElem?_setIfInBounds, Ne.symm hq]
  have eI : q_I (q_cp6 S i j) 27 j = va_cpy (q_I S 27 i) (q_I S 27 j) 0 0 6 := by
    funext z
    show (if (27 : Nat) = 27 ∧ j = j ∧ z < 6 then S.1 27 i z else S.1 27 j z) = _
    unfold va_cpy
    by_cases h : z < 6
    · rw [if_pos ⟨rfl, rfl, h⟩, if_pos (by omega), show 0 + (z - 0) = z by omega]; rfl
    · rw [if_neg (fun q => h q.2.2), if_neg (by omega)]; rfl
  have hH' : q_H G (q_cp6 S i j) (H.setIfInBounds (G.1 27 j) cv) := by
    refine q_cel_set hW hH hj ?_ (q_oth (by decide) (fun g k hne => ?_) (fun _ _ _ => rfl) rfl) oq (fun g j k h x hj hk => hH.2 g j k h x hj hk)
    · rw [q_cel0 rfl, eI]
      show (H.setIfInBounds (G.1 27 j) cv)[G.1 27 j]? = some (vp_cell _ _)
      simp [Array.getElem?_setIfInBounds, hl, ← hcv]
      rfl
    · funext z
      show (if g = 27 ∧ k = j ∧ z < 6 then S.1 27 i z else S.1 g k z) = _
      rw [if_neg (fun q => hne ⟨q.1, q.2.1⟩)]
      rfl
  obtain ⟨t, a1, b1⟩ := kk _ _ hH' ⟨by simp; exact hS.1, fun q g1 g2 => by
      rw [oq q (fun e => g2 (by rw [e]; exact ⟨27, j, hj, rfl⟩))]
      exact hS.2.1 q g1 g2, fun q hq => by
      rcases List.mem_append.mp hq with h | h
      · exact hS.2.2 q h
      · obtain ⟨z, -, hz⟩ := List.mem_map.mp h
        rw [← hz]
        exact ⟨27, j, hj, rfl⟩⟩ _ hheap X'
  exact ⟨t, step t a1, b1⟩
end QT3
end
section
section QU

variable {mt : Nat → Option qM} {p : Program} {l : Launch} {e : Env} {R : Room} {s : State} {m : MethodId} {args : Array Value} {below : List Frame} {meth : Method} {c : Code} {Q : State → Prop} {G : qG} {cc : ByteArray} {nL : Nat} {own : String} {d : Nat}
variable {pc : Nat} {ls : qLs} {st : List qV} {S : qSt} {K : qK} {B : List Nat} {ret : Option FieldType} {rt : Nat} {post : Option qV → qSt → Prop} {mc ms : Nat}

/-- all that is fixed while a method's body runs -/
def q_Sx (mt : Nat → Option qM) (p : Program) (l : Launch) (e : Env) (R : Room) (s : State) (m : MethodId) (args : Array Value) (below : List Frame) (meth : Method) (c : Code) (Q : State → Prop) (G : qG) (cc : ByteArray) (nL : Nat) (own : String) (d : Nat) (K : qK) (ret : Option FieldType) (rt : Nat) (post : Option qV → qSt → Prop) (mc ms : Nat) : Prop :=
  q_Cx mt p l R s m args c G cc nL own d ∧ q_kok mt own K ∧ meth.sig.returnType = ret ∧ meth.locks = false ∧
  ∀ H locs g, W p l e R s m args below meth c H locs mc ms (MQ below (q_Qc G rt post) args s mc ms (q_A G)) g → W p l e R s m args below meth c H locs 0 0 Q g

/-- the answer's kind and the method's type -/
def q_rtok (rt : Nat) (ret : Option FieldType) : Bool := match rt, ret with
  | 0, none => true
  | 1, some .int => true
  | 1, some .boolean => true
  | 2, some .long => true
  | 1, some .byte => true
  | 1, some .char => true
  | n + 3, some (.object _) => decide (n < 97)
  | _, _ => false
theorem q_rt0 {rt : Nat} (h : q_rtok rt none = true) : rt = 0 := match rt, h with
  | 0, _ => rfl
  | 1, h => by cases h
  | 2, h => by cases h
  | _ + 3, h => by cases h
theorem q_rt1 {rt : Nat} (h : q_rtok rt (some .int) = true) : rt = 1 := match rt, h with
  | 0, h => by cases h
  | 1, _ => rfl
  | 2, h => by cases h
  | _ + 3, h => by cases h
theorem q_rt1z {rt : Nat} (h : q_rtok rt (some .boolean) = true) : rt = 1 := match rt, h with
  | 0, h => by cases h
  | 1, _ => rfl
  | 2, h => by cases h
  | _ + 3, h => by cases h
theorem q_rt2 {rt : Nat} (h : q_rtok rt (some .long) = true) : rt = 2 := match rt, h with
  | 0, h => by cases h
  | 1, h => by cases h
  | 2, _ => rfl
  | _ + 3, h => by cases h
theorem q_rt1b {rt : Nat} (h : q_rtok rt (some .byte) = true) : rt = 1 := match rt, h with
  | 0, h => by cases h
  | 1, _ => rfl
  | 2, h => by cases h
  | _ + 3, h => by cases h
theorem q_rt1c {rt : Nat} (h : q_rtok rt (some .char) = true) : rt = 1 := match rt, h with
  | 0, h => by cases h
  | 1, _ => rfl
  | 2, h => by cases h
  | _ + 3, h => by cases h
theorem q_sx {a b : Nat} : (a : Int) + ((b : Int) - a) = (b : Int) := by omega

set_option maxHeartbeats 1000000 in
theorem q_s0 (Z : q_Sx mt p l e R s m args below meth c Q G cc nL own d K ret rt post mc ms) {a b dd : Nat} {z : Int32} {zl : Int64} {w : List (Int32 × Nat)} {i : Instr} {len : Nat} (hd : decode cc pc = .ok (i, len)) (he : (i, len) ∈ q_exp K B len (0, pc, a, b, dd, z, zl, w)) (hc : q_ckx mt nL ret (0, pc, a, b, dd, z, zl, w) = true) (hrt : q_rtok rt ret = true)
    (h : q_op mt l d rt (fun b ls st S => q_At p l e R s m args below meth c Q G nL (q_bp B b) ls st S) post (0, pc, a, b, dd, z, zl, w) ls st S (fun ls st S => q_At p l e R s m args below meth c Q G nL (pc + len) ls st S)) : q_At p l e R s m args below meth c Q G nL (pc) ls st S := by
  obtain ⟨X, hK, hret, hlocks, hQ⟩ := Z
  obtain ⟨hx, hb, hml, hown, hts, hW, hR, hfo, hE⟩ := id X
  intro H locs arr hH hS hl hol hos
  have h : q_At p l e R s m args below meth c Q G nL (pc + len) ls (.inl z :: st) S := h
  have hk := fun pc' (h : q_At p l e R s m args below meth c Q G nL (pc') ls (.inl z :: st) S) => h H locs arr hH hS hl hol (q_okT trivial hos)
  simp only [q_exp, List.mem_append, List.mem_cons, List.not_mem_nil, or_false, List.mem_map, List.mem_filter, decide_eq_true_eq] at he
  rcases he with (he | he | he) | he | he
  · cases he
    exact lv_iconst hx hb hd (by simp) (hk _ h)
  · split at he
    · rename_i g
      cases List.mem_singleton.mp he
      exact lv_bipush hx hb hd g (hk _ h)
    · cases he
  · split at he
    · rename_i g
      cases List.mem_singleton.mp he
      exact lv_sipush hx hb hd g (hk _ h)
    · cases he
  · obtain ⟨x, ⟨h1, h2⟩, h3⟩ := he
    cases h3
    exact lv_ldc hx hb hown (h2 ▸ hts _ (hK.2.1 x h1)) hd (hk _ h)
  · obtain ⟨x, ⟨h1, h2⟩, h3⟩ := he
    cases h3
    exact lv_ldcw hx hb hown (h2 ▸ hts _ (hK.2.1 x h1)) hd (hk _ h)

set_option maxHeartbeats 1000000 in
theorem q_s1 (Z : q_Sx mt p l e R s m args below meth c Q G cc nL own d K ret rt post mc ms) {a b dd : Nat} {z : Int32} {zl : Int64} {w : List (Int32 × Nat)} {i : Instr} {len : Nat} (hd : decode cc pc = .ok (i, len)) (he : (i, len) ∈ q_exp K B len (1, pc, a, b, dd, z, zl, w)) (hc : q_ckx mt nL ret (1, pc, a, b, dd, z, zl, w) = true) (hrt : q_rtok rt ret = true)
    (h : q_op mt l d rt (fun b ls st S => q_At p l e R s m args below meth c Q G nL (q_bp B b) ls st S) post (1, pc, a, b, dd, z, zl, w) ls st S (fun ls st S => q_At p l e R s m args below meth c Q G nL (pc + len) ls st S)) : q_At p l e R s m args below meth c Q G nL (pc) ls st S := by
  obtain ⟨X, hK, hret, hlocks, hQ⟩ := Z
  obtain ⟨hx, hb, hml, hown, hts, hW, hR, hfo, hE⟩ := id X
  intro H locs arr hH hS hl hol hos
  have h : q_At p l e R s m args below meth c Q G nL (pc + len) ls (.inr (.inl zl) :: st) S := h
  have hk := fun pc' (h : q_At p l e R s m args below meth c Q G nL (pc') ls (.inr (.inl zl) :: st) S) => h H locs arr hH hS hl hol (q_okT trivial hos)
  simp only [q_exp, List.mem_append, List.mem_cons, List.not_mem_nil, or_false, List.mem_map, List.mem_filter, decide_eq_true_eq] at he
  rcases he with (he | he) | he
  · split at he
    · rename_i g
      cases List.mem_singleton.mp he
      exact lv_lconst hx hb hd (by rw [g]; rfl) (hk _ h)
    · cases he
  · split at he
    · rename_i g
      cases List.mem_singleton.mp he
      exact lv_lconst hx hb hd (by rw [g]; rfl) (hk _ h)
    · cases he
  · obtain ⟨x, ⟨h1, h2⟩, h3⟩ := he
    cases h3
    exact lv_ldc2 hx hb hown (h2 ▸ hts _ (hK.2.2.1 x h1)) hd (hk _ h)

set_option maxHeartbeats 1000000 in
theorem q_s2 (Z : q_Sx mt p l e R s m args below meth c Q G cc nL own d K ret rt post mc ms) {a b dd : Nat} {z : Int32} {zl : Int64} {w : List (Int32 × Nat)} {i : Instr} {len : Nat} (hd : decode cc pc = .ok (i, len)) (he : (i, len) ∈ q_exp K B len (2, pc, a, b, dd, z, zl, w)) (hc : q_ckx mt nL ret (2, pc, a, b, dd, z, zl, w) = true) (hrt : q_rtok rt ret = true)
    (h : q_op mt l d rt (fun b ls st S => q_At p l e R s m args below meth c Q G nL (q_bp B b) ls st S) post (2, pc, a, b, dd, z, zl, w) ls st S (fun ls st S => q_At p l e R s m args below meth c Q G nL (pc + len) ls st S)) : q_At p l e R s m args below meth c Q G nL (pc) ls st S := by
  obtain ⟨X, hK, hret, hlocks, hQ⟩ := Z
  obtain ⟨hx, hb, hml, hown, hts, hW, hR, hfo, hE⟩ := id X
  intro H locs arr hH hS hl hol hos
  have h : q_ldI (q_get ls a) (fun v => q_At p l e R s m args below meth c Q G nL (pc + len) ls (v :: st) S) := h
  cases hv : q_get ls a with
  | none => rw [hv] at h; exact h.elim
  | some v =>
    rw [hv] at h
    rcases v with x | x | x
    case inr.inl => exact h.elim
    case inr.inr => exact h.elim
    have h : q_At p l e R s m args below meth c Q G nL (pc + len) ls (.inl x :: st) S := h
    simp only [q_exp, List.mem_cons] at he
    rcases he with he | he
    · cases he
      exact lv_iload hx hb hd (q_get_has hl hv) (h H locs arr hH hS hl hol (q_okT trivial hos))
    · split at he
      · rename_i g
        cases List.mem_singleton.mp he
        exact lv_iload_n hx hb hd (Nat.mod_eq_of_lt g) (q_get_has hl hv) (h H locs arr hH hS hl hol (q_okT trivial hos))
      · cases he

set_option maxHeartbeats 1000000 in
theorem q_s3 (Z : q_Sx mt p l e R s m args below meth c Q G cc nL own d K ret rt post mc ms) {a b dd : Nat} {z : Int32} {zl : Int64} {w : List (Int32 × Nat)} {i : Instr} {len : Nat} (hd : decode cc pc = .ok (i, len)) (he : (i, len) ∈ q_exp K B len (3, pc, a, b, dd, z, zl, w)) (hc : q_ckx mt nL ret (3, pc, a, b, dd, z, zl, w) = true) (hrt : q_rtok rt ret = true)
    (h : q_op mt l d rt (fun b ls st S => q_At p l e R s m args below meth c Q G nL (q_bp B b) ls st S) post (3, pc, a, b, dd, z, zl, w) ls st S (fun ls st S => q_At p l e R s m args below meth c Q G nL (pc + len) ls st S)) : q_At p l e R s m args below meth c Q G nL (pc) ls st S := by
  obtain ⟨X, hK, hret, hlocks, hQ⟩ := Z
  obtain ⟨hx, hb, hml, hown, hts, hW, hR, hfo, hE⟩ := id X
  intro H locs arr hH hS hl hol hos
  have h : q_ldL (q_get ls a) (fun v => q_At p l e R s m args below meth c Q G nL (pc + len) ls (v :: st) S) := h
  cases hv : q_get ls a with
  | none => rw [hv] at h; exact h.elim
  | some v =>
    rw [hv] at h
    rcases v with x | x | x
    case inl => exact h.elim
    case inr.inr => exact h.elim
    have h : q_At p l e R s m args below meth c Q G nL (pc + len) ls (.inr (.inl x) :: st) S := h
    simp only [q_exp, List.mem_cons] at he
    rcases he with he | he
    · cases he
      exact lv_lload hx hb hd (q_get_has hl hv) (h H locs arr hH hS hl hol (q_okT trivial hos))
    · split at he
      · rename_i g
        cases List.mem_singleton.mp he
        exact lv_lload_n hx hb hd (Nat.mod_eq_of_lt g) (q_get_has hl hv) (h H locs arr hH hS hl hol (q_okT trivial hos))
      · cases he

set_option maxHeartbeats 1000000 in
theorem q_s4 (Z : q_Sx mt p l e R s m args below meth c Q G cc nL own d K ret rt post mc ms) {a b dd : Nat} {z : Int32} {zl : Int64} {w : List (Int32 × Nat)} {i : Instr} {len : Nat} (hd : decode cc pc = .ok (i, len)) (he : (i, len) ∈ q_exp K B len (4, pc, a, b, dd, z, zl, w)) (hc : q_ckx mt nL ret (4, pc, a, b, dd, z, zl, w) = true) (hrt : q_rtok rt ret = true)
    (h : q_op mt l d rt (fun b ls st S => q_At p l e R s m args below meth c Q G nL (q_bp B b) ls st S) post (4, pc, a, b, dd, z, zl, w) ls st S (fun ls st S => q_At p l e R s m args below meth c Q G nL (pc + len) ls st S)) : q_At p l e R s m args below meth c Q G nL (pc) ls st S := by
  obtain ⟨X, hK, hret, hlocks, hQ⟩ := Z
  obtain ⟨hx, hb, hml, hown, hts, hW, hR, hfo, hE⟩ := id X
  intro H locs arr hH hS hl hol hos
  have h : q_ldR (q_get ls a) (fun v => q_At p l e R s m args below meth c Q G nL (pc + len) ls (v :: st) S) := h
  cases hv : q_get ls a with
  | none => rw [hv] at h; exact h.elim
  | some v =>
    rw [hv] at h
    rcases v with x | x | x
    case inl => exact h.elim
    case inr.inl => exact h.elim
    have h : q_At p l e R s m args below meth c Q G nL (pc + len) ls (.inr (.inr x) :: st) S := h
    simp only [q_exp, List.mem_cons] at he
    rcases he with he | he
    · cases he
      exact lv_aload hx hb hd (q_get_has hl hv) (h H locs arr hH hS hl hol (q_okT (hol _ (q_get_mem hv)) hos))
    · split at he
      · rename_i g
        cases List.mem_singleton.mp he
        exact lv_aload_n hx hb hd (Nat.mod_eq_of_lt g) (q_get_has hl hv) (h H locs arr hH hS hl hol (q_okT (hol _ (q_get_mem hv)) hos))
      · cases he

set_option maxHeartbeats 1000000 in
theorem q_s5 (Z : q_Sx mt p l e R s m args below meth c Q G cc nL own d K ret rt post mc ms) {a b dd : Nat} {z : Int32} {zl : Int64} {w : List (Int32 × Nat)} {i : Instr} {len : Nat} (hd : decode cc pc = .ok (i, len)) (he : (i, len) ∈ q_exp K B len (5, pc, a, b, dd, z, zl, w)) (hc : q_ckx mt nL ret (5, pc, a, b, dd, z, zl, w) = true) (hrt : q_rtok rt ret = true)
    (h : q_op mt l d rt (fun b ls st S => q_At p l e R s m args below meth c Q G nL (q_bp B b) ls st S) post (5, pc, a, b, dd, z, zl, w) ls st S (fun ls st S => q_At p l e R s m args below meth c Q G nL (pc + len) ls st S)) : q_At p l e R s m args below meth c Q G nL (pc) ls st S := by
  obtain ⟨X, hK, hret, hlocks, hQ⟩ := Z
  obtain ⟨hx, hb, hml, hown, hts, hW, hR, hfo, hE⟩ := id X
  intro H locs arr hH hS hl hol hos
  have hlt := of_decide_eq_true hc
  rcases st with _ | ⟨v, r⟩
  · exact h.elim
  · rcases v with x | x | x
    case cons.inr.inl => exact h.elim
    case cons.inr.inr => exact h.elim
    have h : q_At p l e R s m args below meth c Q G nL (pc + len) (q_put ls a (some (.inl x))) r S := h
    have kk : ∀ arr', lv_has arr' nL _ → _ := fun arr' hl' => h H locs arr' hH hS (q_has1 hl') (q_put_okl hol (fun w e => by cases e; trivial)) (q_okD hos)
    simp only [q_exp, List.mem_cons] at he
    rcases he with he | he
    · cases he
      exact lv_istore hx hb hd hl hlt rfl kk
    · split at he
      · rename_i g
        cases List.mem_singleton.mp he
        exact lv_istore_n hx hb hd (Nat.mod_eq_of_lt g) hl hlt rfl kk
      · cases he

set_option maxHeartbeats 1000000 in
theorem q_s6 (Z : q_Sx mt p l e R s m args below meth c Q G cc nL own d K ret rt post mc ms) {a b dd : Nat} {z : Int32} {zl : Int64} {w : List (Int32 × Nat)} {i : Instr} {len : Nat} (hd : decode cc pc = .ok (i, len)) (he : (i, len) ∈ q_exp K B len (6, pc, a, b, dd, z, zl, w)) (hc : q_ckx mt nL ret (6, pc, a, b, dd, z, zl, w) = true) (hrt : q_rtok rt ret = true)
    (h : q_op mt l d rt (fun b ls st S => q_At p l e R s m args below meth c Q G nL (q_bp B b) ls st S) post (6, pc, a, b, dd, z, zl, w) ls st S (fun ls st S => q_At p l e R s m args below meth c Q G nL (pc + len) ls st S)) : q_At p l e R s m args below meth c Q G nL (pc) ls st S := by
  obtain ⟨X, hK, hret, hlocks, hQ⟩ := Z
  obtain ⟨hx, hb, hml, hown, hts, hW, hR, hfo, hE⟩ := id X
  intro H locs arr hH hS hl hol hos
  have hlt := of_decide_eq_true hc
  rcases st with _ | ⟨v, r⟩
  · exact h.elim
  · rcases v with x | x | x
    case cons.inl => exact h.elim
    case cons.inr.inr => exact h.elim
    have h : q_At p l e R s m args below meth c Q G nL (pc + len) (q_put (q_put ls (a + 1) none) a (some (.inr (.inl x)))) r S := h
    have kk : ∀ arr', lv_has arr' nL _ → _ := fun arr' hl' => h H locs arr' hH hS (q_has2 hl') (q_put_okl (q_put_okl hol (fun w e => by cases e)) (fun w e => by cases e; trivial)) (q_okD hos)
    simp only [q_exp, List.mem_cons] at he
    rcases he with he | he
    · cases he
      exact lv_lstore hx hb hd hl hlt rfl kk
    · split at he
      · rename_i g
        cases List.mem_singleton.mp he
        exact lv_lstore_n hx hb hd (Nat.mod_eq_of_lt g) hl hlt rfl kk
      · cases he

set_option maxHeartbeats 1000000 in
theorem q_s7 (Z : q_Sx mt p l e R s m args below meth c Q G cc nL own d K ret rt post mc ms) {a b dd : Nat} {z : Int32} {zl : Int64} {w : List (Int32 × Nat)} {i : Instr} {len : Nat} (hd : decode cc pc = .ok (i, len)) (he : (i, len) ∈ q_exp K B len (7, pc, a, b, dd, z, zl, w)) (hc : q_ckx mt nL ret (7, pc, a, b, dd, z, zl, w) = true) (hrt : q_rtok rt ret = true)
    (h : q_op mt l d rt (fun b ls st S => q_At p l e R s m args below meth c Q G nL (q_bp B b) ls st S) post (7, pc, a, b, dd, z, zl, w) ls st S (fun ls st S => q_At p l e R s m args below meth c Q G nL (pc + len) ls st S)) : q_At p l e R s m args below meth c Q G nL (pc) ls st S := by
  obtain ⟨X, hK, hret, hlocks, hQ⟩ := Z
  obtain ⟨hx, hb, hml, hown, hts, hW, hR, hfo, hE⟩ := id X
  intro H locs arr hH hS hl hol hos
  have hlt := of_decide_eq_true hc
  rcases st with _ | ⟨v, r⟩
  · exact h.elim
  · rcases v with x | x | x
    case cons.inl => exact h.elim
    case cons.inr.inl => exact h.elim
    have h : q_At p l e R s m args below meth c Q G nL (pc + len) (q_put ls a (some (.inr (.inr x)))) r S := h
    have kk : ∀ arr', lv_has arr' nL _ → _ := fun arr' hl' => h H locs arr' hH hS (q_has1 hl') (q_put_okl hol (fun w e => by cases e; exact q_okH hos)) (q_okD hos)
    simp only [q_exp, List.mem_cons] at he
    rcases he with he | he
    · cases he
      exact lv_astore hx hb hd hl hlt rfl kk
    · split at he
      · rename_i g
        cases List.mem_singleton.mp he
        exact lv_astore_n hx hb hd (Nat.mod_eq_of_lt g) hl hlt rfl kk
      · cases he

set_option maxHeartbeats 1000000 in
theorem q_s8 (Z : q_Sx mt p l e R s m args below meth c Q G cc nL own d K ret rt post mc ms) {a b dd : Nat} {z : Int32} {zl : Int64} {w : List (Int32 × Nat)} {i : Instr} {len : Nat} (hd : decode cc pc = .ok (i, len)) (he : (i, len) ∈ q_exp K B len (8, pc, a, b, dd, z, zl, w)) (hc : q_ckx mt nL ret (8, pc, a, b, dd, z, zl, w) = true) (hrt : q_rtok rt ret = true)
    (h : q_op mt l d rt (fun b ls st S => q_At p l e R s m args below meth c Q G nL (q_bp B b) ls st S) post (8, pc, a, b, dd, z, zl, w) ls st S (fun ls st S => q_At p l e R s m args below meth c Q G nL (pc + len) ls st S)) : q_At p l e R s m args below meth c Q G nL (pc) ls st S := by
  obtain ⟨X, hK, hret, hlocks, hQ⟩ := Z
  obtain ⟨hx, hb, hml, hown, hts, hW, hR, hfo, hE⟩ := id X
  intro H locs arr hH hS hl hol hos
  have hlt := of_decide_eq_true hc
  have h : q_inc (q_get ls a) z (fun v => q_At p l e R s m args below meth c Q G nL (pc + len) (q_put ls a (some v)) st S) := h
  cases hv : q_get ls a with
  | none => rw [hv] at h; exact h.elim
  | some v =>
    rw [hv] at h
    rcases v with x | x | x
    case inr.inl => exact h.elim
    case inr.inr => exact h.elim
    have h : q_At p l e R s m args below meth c Q G nL (pc + len) (q_put ls a (some (.inl (x + z)))) st S := h
    simp only [q_exp, List.mem_cons, List.not_mem_nil, or_false] at he
    cases he
    obtain ⟨k, hk⟩ := List.getElem?_of_mem (q_enc_mem (G := G) (k := 0).mpr ⟨a, _, hv, by rw [Nat.zero_add]⟩)
    exact lv_iinc hx hb hd hl hk (by simp) hlt rfl (fun arr' hl' => h H locs arr' hH hS (q_has1 (v := .inl (x + z)) hl') (q_put_okl hol (fun w e => by cases e; trivial)) hos)

set_option maxHeartbeats 1000000 in
theorem q_s9 (Z : q_Sx mt p l e R s m args below meth c Q G cc nL own d K ret rt post mc ms) {a b dd : Nat} {z : Int32} {zl : Int64} {w : List (Int32 × Nat)} {i : Instr} {len : Nat} (hd : decode cc pc = .ok (i, len)) (he : (i, len) ∈ q_exp K B len (9, pc, a, b, dd, z, zl, w)) (hc : q_ckx mt nL ret (9, pc, a, b, dd, z, zl, w) = true) (hrt : q_rtok rt ret = true)
    (h : q_op mt l d rt (fun b ls st S => q_At p l e R s m args below meth c Q G nL (q_bp B b) ls st S) post (9, pc, a, b, dd, z, zl, w) ls st S (fun ls st S => q_At p l e R s m args below meth c Q G nL (pc + len) ls st S)) : q_At p l e R s m args below meth c Q G nL (pc) ls st S := by
  obtain ⟨X, hK, hret, hlocks, hQ⟩ := Z
  obtain ⟨hx, hb, hml, hown, hts, hW, hR, hfo, hE⟩ := id X
  intro H locs arr hH hS hl hol hos
  rcases st with _ | ⟨v1, _ | ⟨v2, r⟩⟩
  · exact h.elim
  · rcases v1 with x | x | x <;> exact h.elim
  · rcases v1 with y | y | y <;> rcases v2 with x | x | x
    case cons.cons.inl.inr.inl => exact h.elim
    case cons.cons.inl.inr.inr => exact h.elim
    case cons.cons.inr.inl.inl => exact h.elim
    case cons.cons.inr.inl.inr.inl => exact h.elim
    case cons.cons.inr.inl.inr.inr => exact h.elim
    case cons.cons.inr.inr.inl => exact h.elim
    case cons.cons.inr.inr.inr.inl => exact h.elim
    case cons.cons.inr.inr.inr.inr => exact h.elim
    have h : q_At p l e R s m args below meth c Q G nL (pc + len) ls (.inl (q_bin a x y) :: r) S := h
    have kk := h H locs arr hH hS hl hol (q_okT trivial (q_okD (q_okD hos)))
    match a, he, kk with
    | 0, he, kk => cases List.mem_singleton.mp he; exact lv_iadd hx hb hd kk
    | 1, he, kk => cases List.mem_singleton.mp he; exact lv_isub hx hb hd kk
    | 2, he, kk => cases List.mem_singleton.mp he; exact lv_imul hx hb hd kk
    | 3, he, kk => cases List.mem_singleton.mp he; exact lv_iand hx hb hd kk
    | 4, he, kk => cases List.mem_singleton.mp he; exact lv_ior hx hb hd kk
    | 5, he, kk => cases List.mem_singleton.mp he; exact lv_ixor hx hb hd kk
    | 6, he, kk => cases List.mem_singleton.mp he; exact lv_ishl hx hb hd kk
    | 7, he, kk => cases List.mem_singleton.mp he; exact lv_ishr hx hb hd kk
    | 8, he, kk => cases List.mem_singleton.mp he; exact lv_iushr hx hb hd rfl kk
    | n + 9, he, kk => cases he

set_option maxHeartbeats 1000000 in
theorem q_s10 (Z : q_Sx mt p l e R s m args below meth c Q G cc nL own d K ret rt post mc ms) {a b dd : Nat} {z : Int32} {zl : Int64} {w : List (Int32 × Nat)} {i : Instr} {len : Nat} (hd : decode cc pc = .ok (i, len)) (he : (i, len) ∈ q_exp K B len (10, pc, a, b, dd, z, zl, w)) (hc : q_ckx mt nL ret (10, pc, a, b, dd, z, zl, w) = true) (hrt : q_rtok rt ret = true)
    (h : q_op mt l d rt (fun b ls st S => q_At p l e R s m args below meth c Q G nL (q_bp B b) ls st S) post (10, pc, a, b, dd, z, zl, w) ls st S (fun ls st S => q_At p l e R s m args below meth c Q G nL (pc + len) ls st S)) : q_At p l e R s m args below meth c Q G nL (pc) ls st S := by
  obtain ⟨X, hK, hret, hlocks, hQ⟩ := Z
  obtain ⟨hx, hb, hml, hown, hts, hW, hR, hfo, hE⟩ := id X
  intro H locs arr hH hS hl hol hos
  rcases st with _ | ⟨v1, _ | ⟨v2, r⟩⟩
  · exact h.elim
  · rcases v1 with x | x | x <;> exact h.elim
  · rcases v1 with y | y | y <;> rcases v2 with x | x | x
    case cons.cons.inl.inr.inl => exact h.elim
    case cons.cons.inl.inr.inr => exact h.elim
    case cons.cons.inr.inl.inl => exact h.elim
    case cons.cons.inr.inl.inr.inl => exact h.elim
    case cons.cons.inr.inl.inr.inr => exact h.elim
    case cons.cons.inr.inr.inl => exact h.elim
    case cons.cons.inr.inr.inr.inl => exact h.elim
    case cons.cons.inr.inr.inr.inr => exact h.elim
    obtain ⟨h0, h⟩ : ¬ y = 0 ∧ q_At p l e R s m args below meth c Q G nL (pc + len) ls (.inl (x / y) :: r) S := h
    cases List.mem_singleton.mp he
    exact lv_idiv hx hb hd h0 (h H locs arr hH hS hl hol (q_okT trivial (q_okD (q_okD hos))))

set_option maxHeartbeats 1000000 in
theorem q_s11 (Z : q_Sx mt p l e R s m args below meth c Q G cc nL own d K ret rt post mc ms) {a b dd : Nat} {z : Int32} {zl : Int64} {w : List (Int32 × Nat)} {i : Instr} {len : Nat} (hd : decode cc pc = .ok (i, len)) (he : (i, len) ∈ q_exp K B len (11, pc, a, b, dd, z, zl, w)) (hc : q_ckx mt nL ret (11, pc, a, b, dd, z, zl, w) = true) (hrt : q_rtok rt ret = true)
    (h : q_op mt l d rt (fun b ls st S => q_At p l e R s m args below meth c Q G nL (q_bp B b) ls st S) post (11, pc, a, b, dd, z, zl, w) ls st S (fun ls st S => q_At p l e R s m args below meth c Q G nL (pc + len) ls st S)) : q_At p l e R s m args below meth c Q G nL (pc) ls st S := by
  obtain ⟨X, hK, hret, hlocks, hQ⟩ := Z
  obtain ⟨hx, hb, hml, hown, hts, hW, hR, hfo, hE⟩ := id X
  intro H locs arr hH hS hl hol hos
  rcases st with _ | ⟨v1, _ | ⟨v2, r⟩⟩
  · exact h.elim
  · rcases v1 with x | x | x <;> exact h.elim
  · rcases v1 with y | y | y <;> rcases v2 with x | x | x
    case cons.cons.inl.inr.inl => exact h.elim
    case cons.cons.inl.inr.inr => exact h.elim
    case cons.cons.inr.inl.inl => exact h.elim
    case cons.cons.inr.inl.inr.inl => exact h.elim
    case cons.cons.inr.inl.inr.inr => exact h.elim
    case cons.cons.inr.inr.inl => exact h.elim
    case cons.cons.inr.inr.inr.inl => exact h.elim
    case cons.cons.inr.inr.inr.inr => exact h.elim
    obtain ⟨h0, h⟩ : ¬ y = 0 ∧ q_At p l e R s m args below meth c Q G nL (pc + len) ls (.inl (x - x / y * y) :: r) S := h
    cases List.mem_singleton.mp he
    exact lv_irem hx hb hd h0 (h H locs arr hH hS hl hol (q_okT trivial (q_okD (q_okD hos))))

set_option maxHeartbeats 1000000 in
theorem q_s12 (Z : q_Sx mt p l e R s m args below meth c Q G cc nL own d K ret rt post mc ms) {a b dd : Nat} {z : Int32} {zl : Int64} {w : List (Int32 × Nat)} {i : Instr} {len : Nat} (hd : decode cc pc = .ok (i, len)) (he : (i, len) ∈ q_exp K B len (12, pc, a, b, dd, z, zl, w)) (hc : q_ckx mt nL ret (12, pc, a, b, dd, z, zl, w) = true) (hrt : q_rtok rt ret = true)
    (h : q_op mt l d rt (fun b ls st S => q_At p l e R s m args below meth c Q G nL (q_bp B b) ls st S) post (12, pc, a, b, dd, z, zl, w) ls st S (fun ls st S => q_At p l e R s m args below meth c Q G nL (pc + len) ls st S)) : q_At p l e R s m args below meth c Q G nL (pc) ls st S := by
  obtain ⟨X, hK, hret, hlocks, hQ⟩ := Z
  obtain ⟨hx, hb, hml, hown, hts, hW, hR, hfo, hE⟩ := id X
  intro H locs arr hH hS hl hol hos
  rcases st with _ | ⟨v1, _ | ⟨v2, r⟩⟩
  · exact h.elim
  · rcases v1 with x | x | x <;> exact h.elim
  · rcases v1 with y | y | y <;> rcases v2 with x | x | x
    case cons.cons.inl.inl => exact h.elim
    case cons.cons.inl.inr.inl => exact h.elim
    case cons.cons.inl.inr.inr => exact h.elim
    case cons.cons.inr.inl.inl => exact h.elim
    case cons.cons.inr.inl.inr.inr => exact h.elim
    case cons.cons.inr.inr.inl => exact h.elim
    case cons.cons.inr.inr.inr.inl => exact h.elim
    case cons.cons.inr.inr.inr.inr => exact h.elim
    have h : q_At p l e R s m args below meth c Q G nL (pc + len) ls (.inr (.inl (q_binL a x y)) :: r) S := h
    have kk := h H locs arr hH hS hl hol (q_okT trivial (q_okD (q_okD hos)))
    match a, he, kk with
    | 0, he, kk => cases List.mem_singleton.mp he; exact lv_ladd hx hb hd kk
    | 1, he, kk => cases List.mem_singleton.mp he; exact lv_lsub hx hb hd kk
    | 2, he, kk => cases List.mem_singleton.mp he; exact lv_lmul hx hb hd kk
    | 3, he, kk => cases List.mem_singleton.mp he; exact lv_land hx hb hd kk
    | 4, he, kk => cases List.mem_singleton.mp he; exact lv_lor hx hb hd kk
    | 5, he, kk => cases List.mem_singleton.mp he; exact lv_lxor hx hb hd kk
    | n + 6, he, kk => cases he

set_option maxHeartbeats 1000000 in
theorem q_s13 (Z : q_Sx mt p l e R s m args below meth c Q G cc nL own d K ret rt post mc ms) {a b dd : Nat} {z : Int32} {zl : Int64} {w : List (Int32 × Nat)} {i : Instr} {len : Nat} (hd : decode cc pc = .ok (i, len)) (he : (i, len) ∈ q_exp K B len (13, pc, a, b, dd, z, zl, w)) (hc : q_ckx mt nL ret (13, pc, a, b, dd, z, zl, w) = true) (hrt : q_rtok rt ret = true)
    (h : q_op mt l d rt (fun b ls st S => q_At p l e R s m args below meth c Q G nL (q_bp B b) ls st S) post (13, pc, a, b, dd, z, zl, w) ls st S (fun ls st S => q_At p l e R s m args below meth c Q G nL (pc + len) ls st S)) : q_At p l e R s m args below meth c Q G nL (pc) ls st S := by
  obtain ⟨X, hK, hret, hlocks, hQ⟩ := Z
  obtain ⟨hx, hb, hml, hown, hts, hW, hR, hfo, hE⟩ := id X
  intro H locs arr hH hS hl hol hos
  rcases st with _ | ⟨v1, _ | ⟨v2, r⟩⟩
  · exact h.elim
  · rcases v1 with x | x | x <;> exact h.elim
  · rcases v1 with y | y | y <;> rcases v2 with x | x | x
    case cons.cons.inl.inl => exact h.elim
    case cons.cons.inl.inr.inr => exact h.elim
    case cons.cons.inr.inl.inl => exact h.elim
    case cons.cons.inr.inl.inr.inl => exact h.elim
    case cons.cons.inr.inl.inr.inr => exact h.elim
    case cons.cons.inr.inr.inl => exact h.elim
    case cons.cons.inr.inr.inr.inl => exact h.elim
    case cons.cons.inr.inr.inr.inr => exact h.elim
    have h : q_At p l e R s m args below meth c Q G nL (pc + len) ls (.inr (.inl (q_shL a x y)) :: r) S := h
    have kk := h H locs arr hH hS hl hol (q_okT trivial (q_okD (q_okD hos)))
    match a, he, kk with
    | 0, he, kk => cases List.mem_singleton.mp he; exact lv_lshl hx hb hd rfl kk
    | 1, he, kk => cases List.mem_singleton.mp he; exact lv_lshr hx hb hd rfl kk
    | 2, he, kk => cases List.mem_singleton.mp he; exact lv_lushr hx hb hd rfl kk
    | n + 3, he, kk => cases he

set_option maxHeartbeats 1000000 in
theorem q_s14 (Z : q_Sx mt p l e R s m args below meth c Q G cc nL own d K ret rt post mc ms) {a b dd : Nat} {z : Int32} {zl : Int64} {w : List (Int32 × Nat)} {i : Instr} {len : Nat} (hd : decode cc pc = .ok (i, len)) (he : (i, len) ∈ q_exp K B len (14, pc, a, b, dd, z, zl, w)) (hc : q_ckx mt nL ret (14, pc, a, b, dd, z, zl, w) = true) (hrt : q_rtok rt ret = true)
    (h : q_op mt l d rt (fun b ls st S => q_At p l e R s m args below meth c Q G nL (q_bp B b) ls st S) post (14, pc, a, b, dd, z, zl, w) ls st S (fun ls st S => q_At p l e R s m args below meth c Q G nL (pc + len) ls st S)) : q_At p l e R s m args below meth c Q G nL (pc) ls st S := by
  obtain ⟨X, hK, hret, hlocks, hQ⟩ := Z
  obtain ⟨hx, hb, hml, hown, hts, hW, hR, hfo, hE⟩ := id X
  intro H locs arr hH hS hl hol hos
  rcases st with _ | ⟨v, r⟩
  · exact h.elim
  · rcases v with x | x | x
    case cons.inr.inl => exact h.elim
    case cons.inr.inr => exact h.elim
    have h : q_At p l e R s m args below meth c Q G nL (pc + len) ls (.inl (-x) :: r) S := h
    cases List.mem_singleton.mp he
    exact lv_ineg hx hb hd (h H locs arr hH hS hl hol (q_okT trivial (q_okD hos)))

set_option maxHeartbeats 1000000 in
theorem q_s15 (Z : q_Sx mt p l e R s m args below meth c Q G cc nL own d K ret rt post mc ms) {a b dd : Nat} {z : Int32} {zl : Int64} {w : List (Int32 × Nat)} {i : Instr} {len : Nat} (hd : decode cc pc = .ok (i, len)) (he : (i, len) ∈ q_exp K B len (15, pc, a, b, dd, z, zl, w)) (hc : q_ckx mt nL ret (15, pc, a, b, dd, z, zl, w) = true) (hrt : q_rtok rt ret = true)
    (h : q_op mt l d rt (fun b ls st S => q_At p l e R s m args below meth c Q G nL (q_bp B b) ls st S) post (15, pc, a, b, dd, z, zl, w) ls st S (fun ls st S => q_At p l e R s m args below meth c Q G nL (pc + len) ls st S)) : q_At p l e R s m args below meth c Q G nL (pc) ls st S := by
  obtain ⟨X, hK, hret, hlocks, hQ⟩ := Z
  obtain ⟨hx, hb, hml, hown, hts, hW, hR, hfo, hE⟩ := id X
  intro H locs arr hH hS hl hol hos
  rcases st with _ | ⟨v, r⟩
  · exact h.elim
  · rcases v with x | x | x
    case cons.inr.inl => exact h.elim
    case cons.inr.inr => exact h.elim
    have h : q_At p l e R s m args below meth c Q G nL (pc + len) ls (.inl x.toInt8.toInt32 :: r) S := h
    cases List.mem_singleton.mp he
    exact lv_i2b hx hb hd rfl (h H locs arr hH hS hl hol (q_okT trivial (q_okD hos)))

set_option maxHeartbeats 1000000 in
theorem q_s16 (Z : q_Sx mt p l e R s m args below meth c Q G cc nL own d K ret rt post mc ms) {a b dd : Nat} {z : Int32} {zl : Int64} {w : List (Int32 × Nat)} {i : Instr} {len : Nat} (hd : decode cc pc = .ok (i, len)) (he : (i, len) ∈ q_exp K B len (16, pc, a, b, dd, z, zl, w)) (hc : q_ckx mt nL ret (16, pc, a, b, dd, z, zl, w) = true) (hrt : q_rtok rt ret = true)
    (h : q_op mt l d rt (fun b ls st S => q_At p l e R s m args below meth c Q G nL (q_bp B b) ls st S) post (16, pc, a, b, dd, z, zl, w) ls st S (fun ls st S => q_At p l e R s m args below meth c Q G nL (pc + len) ls st S)) : q_At p l e R s m args below meth c Q G nL (pc) ls st S := by
  obtain ⟨X, hK, hret, hlocks, hQ⟩ := Z
  obtain ⟨hx, hb, hml, hown, hts, hW, hR, hfo, hE⟩ := id X
  intro H locs arr hH hS hl hol hos
  rcases st with _ | ⟨v, r⟩
  · exact h.elim
  · rcases v with x | x | x
    case cons.inr.inl => exact h.elim
    case cons.inr.inr => exact h.elim
    have h : q_At p l e R s m args below meth c Q G nL (pc + len) ls (.inr (.inl x.toInt64) :: r) S := h
    cases List.mem_singleton.mp he
    exact lv_i2l hx hb hd rfl (h H locs arr hH hS hl hol (q_okT trivial (q_okD hos)))

set_option maxHeartbeats 1000000 in
theorem q_s17 (Z : q_Sx mt p l e R s m args below meth c Q G cc nL own d K ret rt post mc ms) {a b dd : Nat} {z : Int32} {zl : Int64} {w : List (Int32 × Nat)} {i : Instr} {len : Nat} (hd : decode cc pc = .ok (i, len)) (he : (i, len) ∈ q_exp K B len (17, pc, a, b, dd, z, zl, w)) (hc : q_ckx mt nL ret (17, pc, a, b, dd, z, zl, w) = true) (hrt : q_rtok rt ret = true)
    (h : q_op mt l d rt (fun b ls st S => q_At p l e R s m args below meth c Q G nL (q_bp B b) ls st S) post (17, pc, a, b, dd, z, zl, w) ls st S (fun ls st S => q_At p l e R s m args below meth c Q G nL (pc + len) ls st S)) : q_At p l e R s m args below meth c Q G nL (pc) ls st S := by
  obtain ⟨X, hK, hret, hlocks, hQ⟩ := Z
  obtain ⟨hx, hb, hml, hown, hts, hW, hR, hfo, hE⟩ := id X
  intro H locs arr hH hS hl hol hos
  rcases st with _ | ⟨v, r⟩
  · exact h.elim
  · rcases v with x | x | x
    case cons.inl => exact h.elim
    case cons.inr.inr => exact h.elim
    have h : q_At p l e R s m args below meth c Q G nL (pc + len) ls (.inl x.toInt32 :: r) S := h
    cases List.mem_singleton.mp he
    exact lv_l2i hx hb hd rfl (h H locs arr hH hS hl hol (q_okT trivial (q_okD hos)))

set_option maxHeartbeats 1000000 in
theorem q_s18 (Z : q_Sx mt p l e R s m args below meth c Q G cc nL own d K ret rt post mc ms) {a b dd : Nat} {z : Int32} {zl : Int64} {w : List (Int32 × Nat)} {i : Instr} {len : Nat} (hd : decode cc pc = .ok (i, len)) (he : (i, len) ∈ q_exp K B len (18, pc, a, b, dd, z, zl, w)) (hc : q_ckx mt nL ret (18, pc, a, b, dd, z, zl, w) = true) (hrt : q_rtok rt ret = true)
    (h : q_op mt l d rt (fun b ls st S => q_At p l e R s m args below meth c Q G nL (q_bp B b) ls st S) post (18, pc, a, b, dd, z, zl, w) ls st S (fun ls st S => q_At p l e R s m args below meth c Q G nL (pc + len) ls st S)) : q_At p l e R s m args below meth c Q G nL (pc) ls st S := by
  obtain ⟨X, hK, hret, hlocks, hQ⟩ := Z
  obtain ⟨hx, hb, hml, hown, hts, hW, hR, hfo, hE⟩ := id X
  intro H locs arr hH hS hl hol hos
  rcases st with _ | ⟨v1, _ | ⟨v2, r⟩⟩
  · exact h.elim
  · rcases v1 with x | x | x <;> exact h.elim
  · rcases v1 with y | y | y <;> rcases v2 with x | x | x
    case cons.cons.inl.inl => exact h.elim
    case cons.cons.inl.inr.inl => exact h.elim
    case cons.cons.inl.inr.inr => exact h.elim
    case cons.cons.inr.inl.inl => exact h.elim
    case cons.cons.inr.inl.inr.inr => exact h.elim
    case cons.cons.inr.inr.inl => exact h.elim
    case cons.cons.inr.inr.inr.inl => exact h.elim
    case cons.cons.inr.inr.inr.inr => exact h.elim
    have h : q_At p l e R s m args below meth c Q G nL (pc + len) ls (.inl (lg_cmp x y) :: r) S := h
    cases List.mem_singleton.mp he
    exact W.lcmp hx hb hd (h H locs arr hH hS hl hol (q_okT trivial (q_okD (q_okD hos))))

set_option maxHeartbeats 1000000 in
theorem q_s19 (Z : q_Sx mt p l e R s m args below meth c Q G cc nL own d K ret rt post mc ms) {a b dd : Nat} {z : Int32} {zl : Int64} {w : List (Int32 × Nat)} {i : Instr} {len : Nat} (hd : decode cc pc = .ok (i, len)) (he : (i, len) ∈ q_exp K B len (19, pc, a, b, dd, z, zl, w)) (hc : q_ckx mt nL ret (19, pc, a, b, dd, z, zl, w) = true) (hrt : q_rtok rt ret = true)
    (h : q_op mt l d rt (fun b ls st S => q_At p l e R s m args below meth c Q G nL (q_bp B b) ls st S) post (19, pc, a, b, dd, z, zl, w) ls st S (fun ls st S => q_At p l e R s m args below meth c Q G nL (pc + len) ls st S)) : q_At p l e R s m args below meth c Q G nL (pc) ls st S := by
  obtain ⟨X, hK, hret, hlocks, hQ⟩ := Z
  obtain ⟨hx, hb, hml, hown, hts, hW, hR, hfo, hE⟩ := id X
  intro H locs arr hH hS hl hol hos
  cases List.mem_singleton.mp he
  rcases st with _ | ⟨v, r⟩
  · exact h.elim
  · rcases v with x | x | x
    · exact lv_dup hx hb hd rfl (h H locs arr hH hS hl hol (q_okT trivial hos))
    · exact h.elim
    · exact lv_dup hx hb hd rfl (h H locs arr hH hS hl hol (q_okT (q_okH hos) hos))

set_option maxHeartbeats 1000000 in
theorem q_s20 (Z : q_Sx mt p l e R s m args below meth c Q G cc nL own d K ret rt post mc ms) {a b dd : Nat} {z : Int32} {zl : Int64} {w : List (Int32 × Nat)} {i : Instr} {len : Nat} (hd : decode cc pc = .ok (i, len)) (he : (i, len) ∈ q_exp K B len (20, pc, a, b, dd, z, zl, w)) (hc : q_ckx mt nL ret (20, pc, a, b, dd, z, zl, w) = true) (hrt : q_rtok rt ret = true)
    (h : q_op mt l d rt (fun b ls st S => q_At p l e R s m args below meth c Q G nL (q_bp B b) ls st S) post (20, pc, a, b, dd, z, zl, w) ls st S (fun ls st S => q_At p l e R s m args below meth c Q G nL (pc + len) ls st S)) : q_At p l e R s m args below meth c Q G nL (pc) ls st S := by
  obtain ⟨X, hK, hret, hlocks, hQ⟩ := Z
  obtain ⟨hx, hb, hml, hown, hts, hW, hR, hfo, hE⟩ := id X
  intro H locs arr hH hS hl hol hos
  rcases st with _ | ⟨v1, _ | ⟨v2, r⟩⟩
  · exact h.elim
  · rcases v1 with x | x | x <;> exact h.elim
  · rcases v1 with y | y | y <;> rcases v2 with x | x | x
    case cons.cons.inl.inl => exact h.elim
    case cons.cons.inl.inr.inl => exact h.elim
    case cons.cons.inr.inl.inl => exact h.elim
    case cons.cons.inr.inl.inr.inl => exact h.elim
    case cons.cons.inr.inl.inr.inr => exact h.elim
    case cons.cons.inr.inr.inl => exact h.elim
    case cons.cons.inr.inr.inr.inl => exact h.elim
    case cons.cons.inr.inr.inr.inr => exact h.elim
    cases List.mem_singleton.mp he
    exact lv_dup2_11 hx hb hd rfl rfl (h H locs arr hH hS hl hol (q_okT trivial (q_okT (q_okH (q_okD hos)) hos)))

set_option maxHeartbeats 1000000 in
theorem q_s21 (Z : q_Sx mt p l e R s m args below meth c Q G cc nL own d K ret rt post mc ms) {a b dd : Nat} {z : Int32} {zl : Int64} {w : List (Int32 × Nat)} {i : Instr} {len : Nat} (hd : decode cc pc = .ok (i, len)) (he : (i, len) ∈ q_exp K B len (21, pc, a, b, dd, z, zl, w)) (hc : q_ckx mt nL ret (21, pc, a, b, dd, z, zl, w) = true) (hrt : q_rtok rt ret = true)
    (h : q_op mt l d rt (fun b ls st S => q_At p l e R s m args below meth c Q G nL (q_bp B b) ls st S) post (21, pc, a, b, dd, z, zl, w) ls st S (fun ls st S => q_At p l e R s m args below meth c Q G nL (pc + len) ls st S)) : q_At p l e R s m args below meth c Q G nL (pc) ls st S := by
  obtain ⟨X, hK, hret, hlocks, hQ⟩ := Z
  obtain ⟨hx, hb, hml, hown, hts, hW, hR, hfo, hE⟩ := id X
  intro H locs arr hH hS hl hol hos
  cases List.mem_singleton.mp he
  rcases st with _ | ⟨v, r⟩
  · exact h.elim
  · rcases v with x | x | x
    · exact lv_pop hx hb hd rfl (h H locs arr hH hS hl hol (q_okD hos))
    · exact h.elim
    · exact lv_pop hx hb hd rfl (h H locs arr hH hS hl hol (q_okD hos))

set_option maxHeartbeats 1000000 in
theorem q_s22 (Z : q_Sx mt p l e R s m args below meth c Q G cc nL own d K ret rt post mc ms) {a b dd : Nat} {z : Int32} {zl : Int64} {w : List (Int32 × Nat)} {i : Instr} {len : Nat} (hd : decode cc pc = .ok (i, len)) (he : (i, len) ∈ q_exp K B len (22, pc, a, b, dd, z, zl, w)) (hc : q_ckx mt nL ret (22, pc, a, b, dd, z, zl, w) = true) (hrt : q_rtok rt ret = true)
    (h : q_op mt l d rt (fun b ls st S => q_At p l e R s m args below meth c Q G nL (q_bp B b) ls st S) post (22, pc, a, b, dd, z, zl, w) ls st S (fun ls st S => q_At p l e R s m args below meth c Q G nL (pc + len) ls st S)) : q_At p l e R s m args below meth c Q G nL (pc) ls st S := by
  obtain ⟨X, hK, hret, hlocks, hQ⟩ := Z
  obtain ⟨hx, hb, hml, hown, hts, hW, hR, hfo, hE⟩ := id X
  intro H locs arr hH hS hl hol hos
  rcases st with _ | ⟨v, r⟩
  · exact h.elim
  · rcases v with x | x | x
    case cons.inr.inl => exact h.elim
    case cons.inr.inr => exact h.elim
    cases List.mem_singleton.mp he
    have h : q_if a x 0 (q_At p l e R s m args below meth c Q G nL (q_bp B b) ls r S) (q_At p l e R s m args below meth c Q G nL (pc + 3) ls r S) := h
    have k := fun pc' (h : q_At p l e R s m args below meth c Q G nL (pc') ls r S) => h H locs arr hH hS hl hol (q_okD hos)
    match a, hd, h with
    | 0, hd, h => exact lv_if_eq hx hb hd q_sx (fun q => k _ (h.1 q)) (fun q => k _ (h.2 q))
    | 1, hd, h => exact lv_if_ne hx hb hd q_sx (fun q => k _ (h.1 q)) (fun q => k _ (h.2 q))
    | 2, hd, h => exact lv_if_lt hx hb hd q_sx (fun q => k _ (h.1 q)) (fun q => k _ (h.2 q))
    | 3, hd, h => exact lv_if_ge hx hb hd q_sx (fun q => k _ (h.1 q)) (fun q => k _ (h.2 q))
    | 4, hd, h => exact lv_if_gt hx hb hd q_sx (fun q => k _ (h.1 q)) (fun q => k _ (h.2 q))
    | n + 5, hd, h => exact lv_if_le hx hb hd q_sx (fun q => k _ (h.1 q)) (fun q => k _ (h.2 q))

set_option maxHeartbeats 1000000 in
theorem q_s23 (Z : q_Sx mt p l e R s m args below meth c Q G cc nL own d K ret rt post mc ms) {a b dd : Nat} {z : Int32} {zl : Int64} {w : List (Int32 × Nat)} {i : Instr} {len : Nat} (hd : decode cc pc = .ok (i, len)) (he : (i, len) ∈ q_exp K B len (23, pc, a, b, dd, z, zl, w)) (hc : q_ckx mt nL ret (23, pc, a, b, dd, z, zl, w) = true) (hrt : q_rtok rt ret = true)
    (h : q_op mt l d rt (fun b ls st S => q_At p l e R s m args below meth c Q G nL (q_bp B b) ls st S) post (23, pc, a, b, dd, z, zl, w) ls st S (fun ls st S => q_At p l e R s m args below meth c Q G nL (pc + len) ls st S)) : q_At p l e R s m args below meth c Q G nL (pc) ls st S := by
  obtain ⟨X, hK, hret, hlocks, hQ⟩ := Z
  obtain ⟨hx, hb, hml, hown, hts, hW, hR, hfo, hE⟩ := id X
  intro H locs arr hH hS hl hol hos
  rcases st with _ | ⟨v1, _ | ⟨v2, r⟩⟩
  · exact h.elim
  · rcases v1 with x | x | x <;> exact h.elim
  · rcases v1 with y | y | y <;> rcases v2 with x | x | x
    case cons.cons.inl.inr.inl => exact h.elim
    case cons.cons.inl.inr.inr => exact h.elim
    case cons.cons.inr.inl.inl => exact h.elim
    case cons.cons.inr.inl.inr.inl => exact h.elim
    case cons.cons.inr.inl.inr.inr => exact h.elim
    case cons.cons.inr.inr.inl => exact h.elim
    case cons.cons.inr.inr.inr.inl => exact h.elim
    case cons.cons.inr.inr.inr.inr => exact h.elim
    cases List.mem_singleton.mp he
    have h : q_if a x y (q_At p l e R s m args below meth c Q G nL (q_bp B b) ls r S) (q_At p l e R s m args below meth c Q G nL (pc + 3) ls r S) := h
    have k := fun pc' (h : q_At p l e R s m args below meth c Q G nL (pc') ls r S) => h H locs arr hH hS hl hol (q_okD (q_okD hos))
    match a, hd, h with
    | 0, hd, h => exact lv_icmp_eq hx hb hd q_sx (fun q => k _ (h.1 q)) (fun q => k _ (h.2 q))
    | 1, hd, h => exact lv_icmp_ne hx hb hd q_sx (fun q => k _ (h.1 q)) (fun q => k _ (h.2 q))
    | 2, hd, h => exact lv_icmp_lt hx hb hd q_sx (fun q => k _ (h.1 q)) (fun q => k _ (h.2 q))
    | 3, hd, h => exact lv_icmp_ge hx hb hd q_sx (fun q => k _ (h.1 q)) (fun q => k _ (h.2 q))
    | 4, hd, h => exact lv_icmp_gt hx hb hd q_sx (fun q => k _ (h.1 q)) (fun q => k _ (h.2 q))
    | n + 5, hd, h => exact lv_icmp_le hx hb hd q_sx (fun q => k _ (h.1 q)) (fun q => k _ (h.2 q))

set_option maxHeartbeats 1000000 in
theorem q_s24 (Z : q_Sx mt p l e R s m args below meth c Q G cc nL own d K ret rt post mc ms) {a b dd : Nat} {z : Int32} {zl : Int64} {w : List (Int32 × Nat)} {i : Instr} {len : Nat} (hd : decode cc pc = .ok (i, len)) (he : (i, len) ∈ q_exp K B len (24, pc, a, b, dd, z, zl, w)) (hc : q_ckx mt nL ret (24, pc, a, b, dd, z, zl, w) = true) (hrt : q_rtok rt ret = true)
    (h : q_op mt l d rt (fun b ls st S => q_At p l e R s m args below meth c Q G nL (q_bp B b) ls st S) post (24, pc, a, b, dd, z, zl, w) ls st S (fun ls st S => q_At p l e R s m args below meth c Q G nL (pc + len) ls st S)) : q_At p l e R s m args below meth c Q G nL (pc) ls st S := by
  obtain ⟨X, hK, hret, hlocks, hQ⟩ := Z
  obtain ⟨hx, hb, hml, hown, hts, hW, hR, hfo, hE⟩ := id X
  intro H locs arr hH hS hl hol hos
  cases List.mem_singleton.mp he
  exact lv_goto hx hb hd q_sx (h H locs arr hH hS hl hol hos)

set_option maxHeartbeats 1000000 in
theorem q_s26 (Z : q_Sx mt p l e R s m args below meth c Q G cc nL own d K ret rt post mc ms) {a b dd : Nat} {z : Int32} {zl : Int64} {w : List (Int32 × Nat)} {i : Instr} {len : Nat} (hd : decode cc pc = .ok (i, len)) (he : (i, len) ∈ q_exp K B len (26, pc, a, b, dd, z, zl, w)) (hc : q_ckx mt nL ret (26, pc, a, b, dd, z, zl, w) = true) (hrt : q_rtok rt ret = true)
    (h : q_op mt l d rt (fun b ls st S => q_At p l e R s m args below meth c Q G nL (q_bp B b) ls st S) post (26, pc, a, b, dd, z, zl, w) ls st S (fun ls st S => q_At p l e R s m args below meth c Q G nL (pc + len) ls st S)) : q_At p l e R s m args below meth c Q G nL (pc) ls st S := by
  obtain ⟨X, hK, hret, hlocks, hQ⟩ := Z
  obtain ⟨hx, hb, hml, hown, hts, hW, hR, hfo, hE⟩ := id X
  intro H locs arr hH hS hl hol hos
  rcases st with _ | ⟨v, r⟩
  · exact h.elim
  · rcases v with x | x | x
    case cons.inl => exact h.elim
    case cons.inr.inl => exact h.elim
    obtain ⟨g, i0⟩ := x
    obtain ⟨rfl, h⟩ : g = a ∧ q_At p l e R s m args below meth c Q G nL (pc + len) ls (.inl (q_I S a i0 b) :: r) S := h
    simp only [q_exp, List.mem_map, List.mem_filter, decide_eq_true_eq] at he
    obtain ⟨y, ⟨h1, h2, h3, h4⟩, h5⟩ := he
    cases h5
    obtain ⟨idx, y1, y2, y3⟩ := y
    dsimp only at h2 h3 h4
    subst h2; subst h3; subst h4
    simp only [q_ckx, Bool.or_eq_true, decide_eq_true_eq, Option.map_eq_some_iff] at hc
    rcases hc with ⟨k, hk, hk0⟩ | ⟨k, hk, hk0⟩ <;> obtain ⟨k1, k2⟩ := k <;> dsimp only at hk0 <;> subst hk0 <;>
    exact q_read X hK hH (q_okA (q_okH hos) (q_fk_lt hk)) hk h1 hd (h H locs arr hH hS hl hol (q_okT trivial (q_okD hos)))

set_option maxHeartbeats 1000000 in
theorem q_s27 (Z : q_Sx mt p l e R s m args below meth c Q G cc nL own d K ret rt post mc ms) {a b dd : Nat} {z : Int32} {zl : Int64} {w : List (Int32 × Nat)} {i : Instr} {len : Nat} (hd : decode cc pc = .ok (i, len)) (he : (i, len) ∈ q_exp K B len (27, pc, a, b, dd, z, zl, w)) (hc : q_ckx mt nL ret (27, pc, a, b, dd, z, zl, w) = true) (hrt : q_rtok rt ret = true)
    (h : q_op mt l d rt (fun b ls st S => q_At p l e R s m args below meth c Q G nL (q_bp B b) ls st S) post (27, pc, a, b, dd, z, zl, w) ls st S (fun ls st S => q_At p l e R s m args below meth c Q G nL (pc + len) ls st S)) : q_At p l e R s m args below meth c Q G nL (pc) ls st S := by
  obtain ⟨X, hK, hret, hlocks, hQ⟩ := Z
  obtain ⟨hx, hb, hml, hown, hts, hW, hR, hfo, hE⟩ := id X
  intro H locs arr hH hS hl hol hos
  rcases st with _ | ⟨v, r⟩
  · exact h.elim
  · rcases v with x | x | x
    case cons.inl => exact h.elim
    case cons.inr.inl => exact h.elim
    obtain ⟨g, i0⟩ := x
    obtain ⟨rfl, h⟩ : g = a ∧ q_At p l e R s m args below meth c Q G nL (pc + len) ls (.inr (.inl (q_L S a i0 b)) :: r) S := h
    simp only [q_exp, List.mem_map, List.mem_filter, decide_eq_true_eq] at he
    obtain ⟨y, ⟨h1, h2, h3, h4⟩, h5⟩ := he
    cases h5
    obtain ⟨idx, y1, y2, y3⟩ := y
    dsimp only at h2 h3 h4
    subst h2; subst h3; subst h4
    simp only [q_ckx, decide_eq_true_eq, Option.map_eq_some_iff] at hc
    obtain ⟨k, hk, hk0⟩ := hc
    obtain ⟨k1, k2⟩ := k
    dsimp only at hk0
    subst hk0
    exact q_read X hK hH (q_okA (q_okH hos) (q_fk_lt hk)) hk h1 hd (h H locs arr hH hS hl hol (q_okT trivial (q_okD hos)))

set_option maxHeartbeats 1000000 in
theorem q_s28 (Z : q_Sx mt p l e R s m args below meth c Q G cc nL own d K ret rt post mc ms) {a b dd : Nat} {z : Int32} {zl : Int64} {w : List (Int32 × Nat)} {i : Instr} {len : Nat} (hd : decode cc pc = .ok (i, len)) (he : (i, len) ∈ q_exp K B len (28, pc, a, b, dd, z, zl, w)) (hc : q_ckx mt nL ret (28, pc, a, b, dd, z, zl, w) = true) (hrt : q_rtok rt ret = true)
    (h : q_op mt l d rt (fun b ls st S => q_At p l e R s m args below meth c Q G nL (q_bp B b) ls st S) post (28, pc, a, b, dd, z, zl, w) ls st S (fun ls st S => q_At p l e R s m args below meth c Q G nL (pc + len) ls st S)) : q_At p l e R s m args below meth c Q G nL (pc) ls st S := by
  obtain ⟨X, hK, hret, hlocks, hQ⟩ := Z
  obtain ⟨hx, hb, hml, hown, hts, hW, hR, hfo, hE⟩ := id X
  intro H locs arr hH hS hl hol hos
  rcases st with _ | ⟨v, r⟩
  · exact h.elim
  · rcases v with x | x | x
    case cons.inl => exact h.elim
    case cons.inr.inl => exact h.elim
    obtain ⟨g, i0⟩ := x
    obtain ⟨rfl, h⟩ : g = a ∧ q_At p l e R s m args below meth c Q G nL (pc + len) ls (.inr (.inr (dd, i0)) :: r) S := h
    simp only [q_exp, List.mem_map, List.mem_filter, decide_eq_true_eq] at he
    obtain ⟨y, ⟨h1, h2, h3, h4⟩, h5⟩ := he
    cases h5
    obtain ⟨idx, y1, y2, y3⟩ := y
    dsimp only at h2 h3 h4
    subst h2; subst h3; subst h4
    simp only [q_ckx, Bool.and_eq_true, decide_eq_true_eq] at hc
    have hi : i0 < q_cnt g := q_okA (q_okH hos) (q_fk_lt hc.1)
    refine q_read X hK hH hi hc.1 h1 hd ?_
    have h := h H locs arr hH hS hl hol (q_okT (Or.inl (Nat.lt_of_lt_of_le hi hc.2)) (q_okD hos))
    simpa only [q_fv, List.map_cons, q_cv, Nat.zero_add, Nat.one_mul] using h

set_option maxHeartbeats 1000000 in
theorem q_s29 (Z : q_Sx mt p l e R s m args below meth c Q G cc nL own d K ret rt post mc ms) {a b dd : Nat} {z : Int32} {zl : Int64} {w : List (Int32 × Nat)} {i : Instr} {len : Nat} (hd : decode cc pc = .ok (i, len)) (he : (i, len) ∈ q_exp K B len (29, pc, a, b, dd, z, zl, w)) (hc : q_ckx mt nL ret (29, pc, a, b, dd, z, zl, w) = true) (hrt : q_rtok rt ret = true)
    (h : q_op mt l d rt (fun b ls st S => q_At p l e R s m args below meth c Q G nL (q_bp B b) ls st S) post (29, pc, a, b, dd, z, zl, w) ls st S (fun ls st S => q_At p l e R s m args below meth c Q G nL (pc + len) ls st S)) : q_At p l e R s m args below meth c Q G nL (pc) ls st S := by
  obtain ⟨X, hK, hret, hlocks, hQ⟩ := Z
  obtain ⟨hx, hb, hml, hown, hts, hW, hR, hfo, hE⟩ := id X
  intro H locs arr hH hS hl hol hos
  rcases st with _ | ⟨v, r⟩
  · exact h.elim
  · rcases v with x | x | x
    case cons.inl => exact h.elim
    case cons.inr.inl => exact h.elim
    obtain ⟨g, i0⟩ := x
    rcases w with _ | ⟨⟨w1, w2⟩, _ | ⟨w3, w4⟩⟩
    · exact h.2.elim
    case cons.inr.inr.cons.cons => exact h.2.elim
    obtain ⟨rfl, h⟩ : g = a ∧ q_At p l e R s m args below meth c Q G nL (pc + len) ls (.inr (.inr (dd, w2)) :: r) S := h
    simp only [q_exp, List.mem_map, List.mem_filter, decide_eq_true_eq] at he
    obtain ⟨y, ⟨h1, h2, h3, h4⟩, h5⟩ := he
    cases h5
    obtain ⟨idx, y1, y2, y3⟩ := y
    dsimp only at h2 h3 h4
    subst h2; subst h3; subst h4
    simp only [q_ckx, Bool.and_eq_true, decide_eq_true_eq] at hc
    have hi : i0 < q_cnt g := q_okA (q_okH hos) (q_fk_lt hc.1)
    refine q_read X hK hH hi hc.1 h1 hd ?_
    have h := h H locs arr hH hS hl hol (q_okT (Or.inl hc.2) (q_okD hos))
    simpa only [q_fv, List.map_cons, q_cv, Nat.add_zero, Nat.zero_mul] using h

set_option maxHeartbeats 1000000 in
theorem q_s30 (Z : q_Sx mt p l e R s m args below meth c Q G cc nL own d K ret rt post mc ms) {a b dd : Nat} {z : Int32} {zl : Int64} {w : List (Int32 × Nat)} {i : Instr} {len : Nat} (hd : decode cc pc = .ok (i, len)) (he : (i, len) ∈ q_exp K B len (30, pc, a, b, dd, z, zl, w)) (hc : q_ckx mt nL ret (30, pc, a, b, dd, z, zl, w) = true) (hrt : q_rtok rt ret = true)
    (h : q_op mt l d rt (fun b ls st S => q_At p l e R s m args below meth c Q G nL (q_bp B b) ls st S) post (30, pc, a, b, dd, z, zl, w) ls st S (fun ls st S => q_At p l e R s m args below meth c Q G nL (pc + len) ls st S)) : q_At p l e R s m args below meth c Q G nL (pc) ls st S := by
  obtain ⟨X, hK, hret, hlocks, hQ⟩ := Z
  obtain ⟨hx, hb, hml, hown, hts, hW, hR, hfo, hE⟩ := id X
  intro H locs arr hH hS hl hol hos
  rcases st with _ | ⟨v, r⟩
  · exact h.elim
  · rcases v with x | x | x
    case cons.inl => exact h.elim
    case cons.inr.inl => exact h.elim
    obtain ⟨g, i0⟩ := x
    obtain ⟨rfl, h⟩ : g = a ∧ q_At p l e R s m args below meth c Q G nL (pc + len) ls (.inr (.inr (dd, q_M S a i0 b)) :: r) S := h
    simp only [q_exp, List.mem_map, List.mem_filter, decide_eq_true_eq] at he
    obtain ⟨y, ⟨h1, h2, h3, h4⟩, h5⟩ := he
    cases h5
    obtain ⟨idx, y1, y2, y3⟩ := y
    dsimp only at h2 h3 h4
    subst h2; subst h3; subst h4
    have hc := of_decide_eq_true hc
    have hi : i0 < q_cnt g := q_okA (q_okH hos) (q_fk_lt hc)
    exact q_read X hK hH hi hc h1 hd (h H locs arr hH hS hl hol (q_okT (Or.inl (hH.2 _ _ _ _ _ hi hc)) (q_okD hos)))

set_option maxHeartbeats 1000000 in
theorem q_s31 (Z : q_Sx mt p l e R s m args below meth c Q G cc nL own d K ret rt post mc ms) {a b dd : Nat} {z : Int32} {zl : Int64} {w : List (Int32 × Nat)} {i : Instr} {len : Nat} (hd : decode cc pc = .ok (i, len)) (he : (i, len) ∈ q_exp K B len (31, pc, a, b, dd, z, zl, w)) (hc : q_ckx mt nL ret (31, pc, a, b, dd, z, zl, w) = true) (hrt : q_rtok rt ret = true)
    (h : q_op mt l d rt (fun b ls st S => q_At p l e R s m args below meth c Q G nL (q_bp B b) ls st S) post (31, pc, a, b, dd, z, zl, w) ls st S (fun ls st S => q_At p l e R s m args below meth c Q G nL (pc + len) ls st S)) : q_At p l e R s m args below meth c Q G nL (pc) ls st S := by
  obtain ⟨X, hK, hret, hlocks, hQ⟩ := Z
  obtain ⟨hx, hb, hml, hown, hts, hW, hR, hfo, hE⟩ := id X
  intro H locs arr hH hS hl hol hos
  rcases st with _ | ⟨v1, _ | ⟨v2, r⟩⟩
  · exact h.elim
  · rcases v1 with x | x | x <;> exact h.elim
  · rcases v1 with y | y | y <;> rcases v2 with x | x | x
    case cons.cons.inl.inl => exact h.elim
    case cons.cons.inl.inr.inl => exact h.elim
    case cons.cons.inr.inl.inl => exact h.elim
    case cons.cons.inr.inl.inr.inl => exact h.elim
    case cons.cons.inr.inl.inr.inr => exact h.elim
    case cons.cons.inr.inr.inl => exact h.elim
    case cons.cons.inr.inr.inr.inl => exact h.elim
    case cons.cons.inr.inr.inr.inr => exact h.elim
    obtain ⟨g, i0⟩ := x
    obtain ⟨rfl, h⟩ : g = a ∧ q_At p l e R s m args below meth c Q G nL (pc + len) ls r (q_wI S a i0 b y) := h
    simp only [q_exp, List.mem_map, List.mem_filter, decide_eq_true_eq] at he
    obtain ⟨y, ⟨h1, h2, h3, h4⟩, h5⟩ := he
    cases h5
    obtain ⟨idx, y1, y2, y3⟩ := y
    dsimp only at h2 h3 h4
    subst h2; subst h3; subst h4
    simp only [q_ckx, decide_eq_true_eq, Option.map_eq_some_iff] at hc
    obtain ⟨k, hk, hk0⟩ := hc
    obtain ⟨k1, k2⟩ := k
    dsimp only at hk0
    subst hk0
    refine q_write X hK hH hS (q_okA (q_okH (q_okD hos)) (q_fk_lt hk)) hk h1 hd (S' := q_wI S g i0 y3 y) (by simp [q_fv, q_cv, q_I_wI, q_L_wI, q_M_wI]) ?_ ?_ ?_ ?_ ?_ (by simp) (fun H' locs' hH' hS' => h H' locs' arr hH' hS' hl hol (q_okD (q_okD hos)))
    · intro g2 i2 j2 k2 hne hk2
      unfold q_fv
      by_cases e : g2 = g ∧ i2 = i0 ∧ j2 = y3
      · exact absurd e hne
      · split <;> simp [q_I_wI, q_L_wI, q_M_wI, e]
    · intro g2 i2 hne
      funext j2
      simp only [q_I_wI, show ¬ (g2 = g ∧ i2 = i0 ∧ j2 = y3) from fun h => hne ⟨h.1, h.2.1⟩, if_false]
    · intro g2 i2 hne
      funext j2
      simp only [q_L_wI]
    · intro g2 i2 j2 h2 x2 hi2 hk2
      rw [q_M_wI]; exact hH.2 _ _ _ _ _ hi2 hk2
    · intro ty hty
      rw [hty.1 rfl]; exact ⟨rfl, rfl⟩

set_option maxHeartbeats 1000000 in
theorem q_s34 (Z : q_Sx mt p l e R s m args below meth c Q G cc nL own d K ret rt post mc ms) {a b dd : Nat} {z : Int32} {zl : Int64} {w : List (Int32 × Nat)} {i : Instr} {len : Nat} (hd : decode cc pc = .ok (i, len)) (he : (i, len) ∈ q_exp K B len (34, pc, a, b, dd, z, zl, w)) (hc : q_ckx mt nL ret (34, pc, a, b, dd, z, zl, w) = true) (hrt : q_rtok rt ret = true)
    (h : q_op mt l d rt (fun b ls st S => q_At p l e R s m args below meth c Q G nL (q_bp B b) ls st S) post (34, pc, a, b, dd, z, zl, w) ls st S (fun ls st S => q_At p l e R s m args below meth c Q G nL (pc + len) ls st S)) : q_At p l e R s m args below meth c Q G nL (pc) ls st S := by
  obtain ⟨X, hK, hret, hlocks, hQ⟩ := Z
  obtain ⟨hx, hb, hml, hown, hts, hW, hR, hfo, hE⟩ := id X
  intro H locs arr hH hS hl hol hos
  rcases st with _ | ⟨v1, _ | ⟨v2, r⟩⟩
  · exact h.elim
  · rcases v1 with x | x | x <;> exact h.elim
  · rcases v1 with y | y | y <;> rcases v2 with x | x | x
    case cons.cons.inl.inl => exact h.elim
    case cons.cons.inl.inr.inl => exact h.elim
    case cons.cons.inr.inl.inl => exact h.elim
    case cons.cons.inr.inl.inr.inl => exact h.elim
    case cons.cons.inr.inl.inr.inr => exact h.elim
    case cons.cons.inr.inr.inl => exact h.elim
    case cons.cons.inr.inr.inr.inl => exact h.elim
    case cons.cons.inr.inr.inr.inr => exact h.elim
    obtain ⟨g, i0⟩ := x
    obtain ⟨h01, rfl, h⟩ : (y = 0 ∨ y = 1) ∧ g = a ∧ q_At p l e R s m args below meth c Q G nL (pc + len) ls r (q_wI S a i0 b y) := h
    simp only [q_exp, List.mem_map, List.mem_filter, decide_eq_true_eq] at he
    obtain ⟨y, ⟨h1, h2, h3, h4⟩, h5⟩ := he
    cases h5
    obtain ⟨idx, y1, y2, y3⟩ := y
    dsimp only at h2 h3 h4
    subst h2; subst h3; subst h4
    simp only [q_ckx, decide_eq_true_eq, Option.map_eq_some_iff] at hc
    obtain ⟨k, hk, hk0⟩ := hc
    obtain ⟨k1, k2⟩ := k
    dsimp only at hk0
    subst hk0
    refine q_write X hK hH hS (q_okA (q_okH (q_okD hos)) (q_fk_lt hk)) hk h1 hd (S' := q_wI S g i0 y3 y) (by simp [q_fv, q_cv, q_I_wI, q_L_wI, q_M_wI]) ?_ ?_ ?_ ?_ ?_ (by simp) (fun H' locs' hH' hS' => h H' locs' arr hH' hS' hl hol (q_okD (q_okD hos)))
    · intro g2 i2 j2 k2 hne hk2
      unfold q_fv
      by_cases e : g2 = g ∧ i2 = i0 ∧ j2 = y3
      · exact absurd e hne
      · split <;> simp [q_I_wI, q_L_wI, q_M_wI, e]
    · intro g2 i2 hne
      funext j2
      simp only [q_I_wI, show ¬ (g2 = g ∧ i2 = i0 ∧ j2 = y3) from fun h => hne ⟨h.1, h.2.1⟩, if_false]
    · intro g2 i2 hne
      funext j2
      simp only [q_L_wI]
    · intro g2 i2 j2 h2 x2 hi2 hk2
      rw [q_M_wI]; exact hH.2 _ _ _ _ _ hi2 hk2
    · intro ty hty
      rw [hty.2.2.1 rfl]; rcases h01 with rfl | rfl <;> exact ⟨rfl, rfl⟩

set_option maxHeartbeats 1000000 in
theorem q_s32 (Z : q_Sx mt p l e R s m args below meth c Q G cc nL own d K ret rt post mc ms) {a b dd : Nat} {z : Int32} {zl : Int64} {w : List (Int32 × Nat)} {i : Instr} {len : Nat} (hd : decode cc pc = .ok (i, len)) (he : (i, len) ∈ q_exp K B len (32, pc, a, b, dd, z, zl, w)) (hc : q_ckx mt nL ret (32, pc, a, b, dd, z, zl, w) = true) (hrt : q_rtok rt ret = true)
    (h : q_op mt l d rt (fun b ls st S => q_At p l e R s m args below meth c Q G nL (q_bp B b) ls st S) post (32, pc, a, b, dd, z, zl, w) ls st S (fun ls st S => q_At p l e R s m args below meth c Q G nL (pc + len) ls st S)) : q_At p l e R s m args below meth c Q G nL (pc) ls st S := by
  obtain ⟨X, hK, hret, hlocks, hQ⟩ := Z
  obtain ⟨hx, hb, hml, hown, hts, hW, hR, hfo, hE⟩ := id X
  intro H locs arr hH hS hl hol hos
  rcases st with _ | ⟨v1, _ | ⟨v2, r⟩⟩
  · exact h.elim
  · rcases v1 with x | x | x <;> exact h.elim
  · rcases v1 with y | y | y <;> rcases v2 with x | x | x
    case cons.cons.inl.inl => exact h.elim
    case cons.cons.inl.inr.inl => exact h.elim
    case cons.cons.inl.inr.inr => exact h.elim
    case cons.cons.inr.inl.inl => exact h.elim
    case cons.cons.inr.inl.inr.inl => exact h.elim
    case cons.cons.inr.inr.inl => exact h.elim
    case cons.cons.inr.inr.inr.inl => exact h.elim
    case cons.cons.inr.inr.inr.inr => exact h.elim
    obtain ⟨g, i0⟩ := x
    obtain ⟨rfl, h⟩ : g = a ∧ q_At p l e R s m args below meth c Q G nL (pc + len) ls r (q_wL S a i0 b y) := h
    simp only [q_exp, List.mem_map, List.mem_filter, decide_eq_true_eq] at he
    obtain ⟨y, ⟨h1, h2, h3, h4⟩, h5⟩ := he
    cases h5
    obtain ⟨idx, y1, y2, y3⟩ := y
    dsimp only at h2 h3 h4
    subst h2; subst h3; subst h4
    simp only [q_ckx, decide_eq_true_eq, Option.map_eq_some_iff] at hc
    obtain ⟨k, hk, hk0⟩ := hc
    obtain ⟨k1, k2⟩ := k
    dsimp only at hk0
    subst hk0
    refine q_write X hK hH hS (q_okA (q_okH (q_okD hos)) (q_fk_lt hk)) hk h1 hd (S' := q_wL S g i0 y3 y) (by simp [q_fv, q_cv, q_L_wL, q_I_wL, q_M_wL]) ?_ ?_ ?_ ?_ ?_ (by simp) (fun H' locs' hH' hS' => h H' locs' arr hH' hS' hl hol (q_okD (q_okD hos)))
    · intro g2 i2 j2 k2 hne hk2
      unfold q_fv
      by_cases e : g2 = g ∧ i2 = i0 ∧ j2 = y3
      · exact absurd e hne
      · split <;> simp [q_L_wL, q_I_wL, q_M_wL, e]
    · intro g2 i2 hne
      funext j2
      simp only [q_I_wL]
    · intro g2 i2 hne
      funext j2
      simp only [q_L_wL, show ¬ (g2 = g ∧ i2 = i0 ∧ j2 = y3) from fun h => hne ⟨h.1, h.2.1⟩, if_false]
    · intro g2 i2 j2 h2 x2 hi2 hk2
      rw [q_M_wL]; exact hH.2 _ _ _ _ _ hi2 hk2
    · intro ty hty
      rw [hty.2.1 rfl]; exact ⟨rfl, rfl⟩

set_option maxHeartbeats 1000000 in
theorem q_s33 (Z : q_Sx mt p l e R s m args below meth c Q G cc nL own d K ret rt post mc ms) {a b dd : Nat} {z : Int32} {zl : Int64} {w : List (Int32 × Nat)} {i : Instr} {len : Nat} (hd : decode cc pc = .ok (i, len)) (he : (i, len) ∈ q_exp K B len (33, pc, a, b, dd, z, zl, w)) (hc : q_ckx mt nL ret (33, pc, a, b, dd, z, zl, w) = true) (hrt : q_rtok rt ret = true)
    (h : q_op mt l d rt (fun b ls st S => q_At p l e R s m args below meth c Q G nL (q_bp B b) ls st S) post (33, pc, a, b, dd, z, zl, w) ls st S (fun ls st S => q_At p l e R s m args below meth c Q G nL (pc + len) ls st S)) : q_At p l e R s m args below meth c Q G nL (pc) ls st S := by
  obtain ⟨X, hK, hret, hlocks, hQ⟩ := Z
  obtain ⟨hx, hb, hml, hown, hts, hW, hR, hfo, hE⟩ := id X
  intro H locs arr hH hS hl hol hos
  rcases st with _ | ⟨v1, _ | ⟨v2, r⟩⟩
  · exact h.elim
  · rcases v1 with x | x | x <;> exact h.elim
  · rcases v1 with y | y | y <;> rcases v2 with x | x | x
    case cons.cons.inl.inl => exact h.elim
    case cons.cons.inl.inr.inl => exact h.elim
    case cons.cons.inl.inr.inr => exact h.elim
    case cons.cons.inr.inl.inl => exact h.elim
    case cons.cons.inr.inl.inr.inl => exact h.elim
    case cons.cons.inr.inl.inr.inr => exact h.elim
    case cons.cons.inr.inr.inl => exact h.elim
    case cons.cons.inr.inr.inr.inl => exact h.elim
    obtain ⟨g, i0⟩ := x
    obtain ⟨h', y0⟩ := y
    obtain ⟨rfl, rfl, h⟩ : h' = dd ∧ g = a ∧ q_At p l e R s m args below meth c Q G nL (pc + len) ls r (q_wM S a i0 b y0) := h
    simp only [q_exp, List.mem_map, List.mem_filter, decide_eq_true_eq] at he
    obtain ⟨y, ⟨h1, h2, h3, h4⟩, h5⟩ := he
    cases h5
    obtain ⟨idx, y1, y2, y3⟩ := y
    dsimp only at h2 h3 h4
    subst h2; subst h3; subst h4
    simp only [q_ckx, Bool.and_eq_true, decide_eq_true_eq] at hc
    obtain ⟨hk, h97⟩ := hc
    have hy0 : y0 < q_cnt h' := q_okA (q_okH hos) h97
    refine q_write X hK hH hS (q_okA (q_okH (q_okD hos)) (q_fk_lt hk)) hk h1 hd (S' := q_wM S g i0 y3 y0) (by simp [q_fv, q_cv, q_M_wM, q_I_wM, q_L_wM]) ?_ ?_ ?_ ?_ ?_ (by simp) (fun H' locs' hH' hS' => h H' locs' arr hH' hS' hl hol (q_okD (q_okD hos)))
    · intro g2 i2 j2 k2 hne hk2
      unfold q_fv
      by_cases e : g2 = g ∧ i2 = i0 ∧ j2 = y3
      · exact absurd e hne
      · split <;> simp [q_M_wM, q_I_wM, q_L_wM, e]
    · intro g2 i2 hne
      funext j2
      simp only [q_I_wM]
    · intro g2 i2 hne
      funext j2
      simp only [q_L_wM]
    · intro g2 i2 j2 h2 x2 hi2 hk2
      rw [q_M_wM]; split
      · rename_i e; obtain ⟨rfl, rfl, rfl⟩ := e; rw [hk] at hk2; cases hk2; exact hy0
      · exact hH.2 _ _ _ _ _ hi2 hk2
    · intro ty hty
      obtain ⟨n, hn⟩ := hty.2.2.2 rfl; rw [hn]; exact ⟨rfl, rfl⟩

set_option maxHeartbeats 1000000 in
theorem q_s35 (Z : q_Sx mt p l e R s m args below meth c Q G cc nL own d K ret rt post mc ms) {a b dd : Nat} {z : Int32} {zl : Int64} {w : List (Int32 × Nat)} {i : Instr} {len : Nat} (hd : decode cc pc = .ok (i, len)) (he : (i, len) ∈ q_exp K B len (35, pc, a, b, dd, z, zl, w)) (hc : q_ckx mt nL ret (35, pc, a, b, dd, z, zl, w) = true) (hrt : q_rtok rt ret = true)
    (h : q_op mt l d rt (fun b ls st S => q_At p l e R s m args below meth c Q G nL (q_bp B b) ls st S) post (35, pc, a, b, dd, z, zl, w) ls st S (fun ls st S => q_At p l e R s m args below meth c Q G nL (pc + len) ls st S)) : q_At p l e R s m args below meth c Q G nL (pc) ls st S := by
  obtain ⟨X, hK, hret, hlocks, hQ⟩ := Z
  obtain ⟨hx, hb, hml, hown, hts, hW, hR, hfo, hE⟩ := id X
  intro H locs arr hH hS hl hol hos
  rcases st with _ | ⟨v1, _ | ⟨v2, r⟩⟩
  · exact h.elim
  · rcases v1 with x | x | x <;> exact h.elim
  · rcases v1 with y | y | y <;> rcases v2 with x | x | x
    case cons.cons.inl.inl => exact h.elim
    case cons.cons.inl.inr.inl => exact h.elim
    case cons.cons.inr.inl.inl => exact h.elim
    case cons.cons.inr.inl.inr.inl => exact h.elim
    case cons.cons.inr.inl.inr.inr => exact h.elim
    case cons.cons.inr.inr.inl => exact h.elim
    case cons.cons.inr.inr.inr.inl => exact h.elim
    case cons.cons.inr.inr.inr.inr => exact h.elim
    obtain ⟨f, i0⟩ := x
    obtain ⟨hk, hin, h⟩ : q_ak f = 0 ∧ vp_in y (q_al f) ∧ q_At p l e R s m args below meth c Q G nL (pc + len) ls (.inl (q_I S f i0 y.toNatClampNeg) :: r) S := h
    cases List.mem_singleton.mp he
    have hi : i0 < q_cnt f := q_okA (q_okH (q_okD hos)) (q_ak_lt (by rw [hk]; decide))
    have hP := q_arr0 hH hi hk
    have hKa := q_arrK hW hi (by rw [hk]; decide) (q_aty0 hk)
    exact va_iald (D := G.2.2) (ws := [(G.1 f i0, .inl (G.2.1 f i0, q_al f, .inl (q_I S f i0)))]) (tys := [(G.2.1 f i0, .int)]) hx hb hKa hP 0 0 rfl rfl hin hd (h H locs arr hH hS hl hol (q_okT trivial (q_okD (q_okD hos))))

set_option maxHeartbeats 1000000 in
theorem q_s36 (Z : q_Sx mt p l e R s m args below meth c Q G cc nL own d K ret rt post mc ms) {a b dd : Nat} {z : Int32} {zl : Int64} {w : List (Int32 × Nat)} {i : Instr} {len : Nat} (hd : decode cc pc = .ok (i, len)) (he : (i, len) ∈ q_exp K B len (36, pc, a, b, dd, z, zl, w)) (hc : q_ckx mt nL ret (36, pc, a, b, dd, z, zl, w) = true) (hrt : q_rtok rt ret = true)
    (h : q_op mt l d rt (fun b ls st S => q_At p l e R s m args below meth c Q G nL (q_bp B b) ls st S) post (36, pc, a, b, dd, z, zl, w) ls st S (fun ls st S => q_At p l e R s m args below meth c Q G nL (pc + len) ls st S)) : q_At p l e R s m args below meth c Q G nL (pc) ls st S := by
  obtain ⟨X, hK, hret, hlocks, hQ⟩ := Z
  obtain ⟨hx, hb, hml, hown, hts, hW, hR, hfo, hE⟩ := id X
  intro H locs arr hH hS hl hol hos
  rcases st with _ | ⟨v1, _ | ⟨v2, r⟩⟩
  · exact h.elim
  · rcases v1 with x | x | x <;> exact h.elim
  · rcases v1 with y | y | y <;> rcases v2 with x | x | x
    case cons.cons.inl.inl => exact h.elim
    case cons.cons.inl.inr.inl => exact h.elim
    case cons.cons.inr.inl.inl => exact h.elim
    case cons.cons.inr.inl.inr.inl => exact h.elim
    case cons.cons.inr.inl.inr.inr => exact h.elim
    case cons.cons.inr.inr.inl => exact h.elim
    case cons.cons.inr.inr.inr.inl => exact h.elim
    case cons.cons.inr.inr.inr.inr => exact h.elim
    obtain ⟨f, i0⟩ := x
    obtain ⟨hk, hin, h⟩ : q_ak f = 1 ∧ vp_in y (q_al f) ∧ q_At p l e R s m args below meth c Q G nL (pc + len) ls (.inl (q_I S f i0 y.toNatClampNeg) :: r) S := h
    cases List.mem_singleton.mp he
    have hi : i0 < q_cnt f := q_okA (q_okH (q_okD hos)) (q_ak_lt (by rw [hk]; decide))
    have hP := q_arr1 hH hi hk
    have hKa := q_arrK hW hi (by rw [hk]; decide) (q_aty1 hk)
    exact va_bald (D := G.2.2) (ws := [(G.1 f i0, .inl (G.2.1 f i0, q_al f, .inl (q_I S f i0)))]) (tys := [(G.2.1 f i0, .byte)]) hx hb hKa hP 0 0 rfl rfl hin hd (h H locs arr hH hS hl hol (q_okT trivial (q_okD (q_okD hos))))

set_option maxHeartbeats 1000000 in
theorem q_s37 (Z : q_Sx mt p l e R s m args below meth c Q G cc nL own d K ret rt post mc ms) {a b dd : Nat} {z : Int32} {zl : Int64} {w : List (Int32 × Nat)} {i : Instr} {len : Nat} (hd : decode cc pc = .ok (i, len)) (he : (i, len) ∈ q_exp K B len (37, pc, a, b, dd, z, zl, w)) (hc : q_ckx mt nL ret (37, pc, a, b, dd, z, zl, w) = true) (hrt : q_rtok rt ret = true)
    (h : q_op mt l d rt (fun b ls st S => q_At p l e R s m args below meth c Q G nL (q_bp B b) ls st S) post (37, pc, a, b, dd, z, zl, w) ls st S (fun ls st S => q_At p l e R s m args below meth c Q G nL (pc + len) ls st S)) : q_At p l e R s m args below meth c Q G nL (pc) ls st S := by
  obtain ⟨X, hK, hret, hlocks, hQ⟩ := Z
  obtain ⟨hx, hb, hml, hown, hts, hW, hR, hfo, hE⟩ := id X
  intro H locs arr hH hS hl hol hos
  rcases st with _ | ⟨v1, _ | ⟨v2, r⟩⟩
  · exact h.elim
  · rcases v1 with x | x | x <;> exact h.elim
  · rcases v1 with y | y | y <;> rcases v2 with x | x | x
    case cons.cons.inl.inl => exact h.elim
    case cons.cons.inl.inr.inl => exact h.elim
    case cons.cons.inr.inl.inl => exact h.elim
    case cons.cons.inr.inl.inr.inl => exact h.elim
    case cons.cons.inr.inl.inr.inr => exact h.elim
    case cons.cons.inr.inr.inl => exact h.elim
    case cons.cons.inr.inr.inr.inl => exact h.elim
    case cons.cons.inr.inr.inr.inr => exact h.elim
    obtain ⟨f, i0⟩ := x
    obtain ⟨hk, hin, h⟩ : q_ak f = 2 ∧ vp_in y (q_al f) ∧ q_At p l e R s m args below meth c Q G nL (pc + len) ls (.inr (.inl (q_L S f i0 y.toNatClampNeg)) :: r) S := h
    cases List.mem_singleton.mp he
    have hi : i0 < q_cnt f := q_okA (q_okH (q_okD hos)) (q_ak_lt (by rw [hk]; decide))
    have hP := q_arr2 hH hi hk
    have hKa := q_arrK hW hi (by rw [hk]; decide) (q_aty2 hk)
    exact va_lald (D := G.2.2) (ws := [(G.1 f i0, .inl (G.2.1 f i0, q_al f, .inr (.inl (q_L S f i0))))]) (tys := [(G.2.1 f i0, .long)]) hx hb hKa hP 0 0 rfl rfl hin hd (h H locs arr hH hS hl hol (q_okT trivial (q_okD (q_okD hos))))

set_option maxHeartbeats 1000000 in
theorem q_s38 (Z : q_Sx mt p l e R s m args below meth c Q G cc nL own d K ret rt post mc ms) {a b dd : Nat} {z : Int32} {zl : Int64} {w : List (Int32 × Nat)} {i : Instr} {len : Nat} (hd : decode cc pc = .ok (i, len)) (he : (i, len) ∈ q_exp K B len (38, pc, a, b, dd, z, zl, w)) (hc : q_ckx mt nL ret (38, pc, a, b, dd, z, zl, w) = true) (hrt : q_rtok rt ret = true)
    (h : q_op mt l d rt (fun b ls st S => q_At p l e R s m args below meth c Q G nL (q_bp B b) ls st S) post (38, pc, a, b, dd, z, zl, w) ls st S (fun ls st S => q_At p l e R s m args below meth c Q G nL (pc + len) ls st S)) : q_At p l e R s m args below meth c Q G nL (pc) ls st S := by
  obtain ⟨X, hK, hret, hlocks, hQ⟩ := Z
  obtain ⟨hx, hb, hml, hown, hts, hW, hR, hfo, hE⟩ := id X
  intro H locs arr hH hS hl hol hos
  rcases st with _ | ⟨v1, _ | ⟨v2, r⟩⟩
  · exact h.elim
  · rcases v1 with x | x | x <;> exact h.elim
  · rcases v1 with y | y | y <;> rcases v2 with x | x | x
    case cons.cons.inl.inl => exact h.elim
    case cons.cons.inl.inr.inl => exact h.elim
    case cons.cons.inr.inl.inl => exact h.elim
    case cons.cons.inr.inl.inr.inl => exact h.elim
    case cons.cons.inr.inl.inr.inr => exact h.elim
    case cons.cons.inr.inr.inl => exact h.elim
    case cons.cons.inr.inr.inr.inl => exact h.elim
    case cons.cons.inr.inr.inr.inr => exact h.elim
    obtain ⟨f, i0⟩ := x
    cases List.mem_singleton.mp he
    obtain ⟨hin, h⟩ := h
    have h97 : f < 97 := Nat.lt_of_not_le fun q => by
      rw [q_big (show 81 ≤ f by omega)] at h
      exact h
    have hi : i0 < q_cnt f := q_okA (q_okH (q_okD hos)) h97
    cases hf : q_fam f with
    | inl q => rw [hf] at h; exact h.elim
    | inr q =>
      obtain ⟨k, n, g, c0, c1⟩ := q
      rw [hf] at h
      match k, hf, h with
      | 0, _, h => exact h.elim
      | 1, _, h => exact h.elim
      | 2, _, h => exact h.elim
      | n + 4, _, h => exact h.elim
      | 3, hf, h =>
        have h : q_At p l e R s m args below meth c Q G nL (pc + 1) ls (.inr (.inr (g, c0 + c1 * i0 + y.toNatClampNeg)) :: r) S := h
        have hn : q_al f = n := by simp only [q_al, hf]
        rw [hn] at hin
        have hP : va_P G.2.2 vwCl [(G.1 f i0, .inl (G.2.1 f i0, n, .inr (.inr (.inr (.inr (fun j => some (G.1 g (c0 + c1 * i0 + j))))))))] H := fun k9 q9 h9 => by
          have : k9 = 0 := by have := (List.getElem?_eq_some_iff.mp h9).1; simp at this; exact this
          subst this
          cases h9
          have := hH.1 f i0 hi
          unfold q_cel at this
          rw [hf] at this
          exact this
        have hlt : y.toNatClampNeg < n := Nat.not_le.mp fun q => hin (Or.inr q)
        have hv := q_far f i0 n g c0 c1 y.toNatClampNeg hf hi hlt
        have ak3 : q_ak f < 4 := by simp only [q_ak, hf]; decide
        exact q_aald hx hb hP hW hi ak3 (q_atyR f (by simp only [q_ak, hf])) hin hd (h H locs arr hH hS hl hol (q_okT (Or.inl hv) (q_okD (q_okD hos))))

set_option maxHeartbeats 1000000 in
theorem q_s39 (Z : q_Sx mt p l e R s m args below meth c Q G cc nL own d K ret rt post mc ms) {a b dd : Nat} {z : Int32} {zl : Int64} {w : List (Int32 × Nat)} {i : Instr} {len : Nat} (hd : decode cc pc = .ok (i, len)) (he : (i, len) ∈ q_exp K B len (39, pc, a, b, dd, z, zl, w)) (hc : q_ckx mt nL ret (39, pc, a, b, dd, z, zl, w) = true) (hrt : q_rtok rt ret = true)
    (h : q_op mt l d rt (fun b ls st S => q_At p l e R s m args below meth c Q G nL (q_bp B b) ls st S) post (39, pc, a, b, dd, z, zl, w) ls st S (fun ls st S => q_At p l e R s m args below meth c Q G nL (pc + len) ls st S)) : q_At p l e R s m args below meth c Q G nL (pc) ls st S := by
  obtain ⟨X, hK, hret, hlocks, hQ⟩ := Z
  obtain ⟨hx, hb, hml, hown, hts, hW, hR, hfo, hE⟩ := id X
  intro H locs arr hH hS hl hol hos
  rcases st with _ | ⟨v1, _ | ⟨v2, _ | ⟨v3, r⟩⟩⟩
  · exact h.elim
  · rcases v1 with x | x | x <;> exact h.elim
  · rcases v1 with x | x | x <;> rcases v2 with y | y | y <;> exact h.elim
  · rcases v1 with v | v | v <;> rcases v2 with y | y | y <;> rcases v3 with x | x | x
    case cons.cons.cons.inl.inl.inl => exact h.elim
    case cons.cons.cons.inl.inl.inr.inl => exact h.elim
    case cons.cons.cons.inl.inr.inl.inl => exact h.elim
    case cons.cons.cons.inl.inr.inl.inr.inl => exact h.elim
    case cons.cons.cons.inl.inr.inl.inr.inr => exact h.elim
    case cons.cons.cons.inl.inr.inr.inl => exact h.elim
    case cons.cons.cons.inl.inr.inr.inr.inl => exact h.elim
    case cons.cons.cons.inl.inr.inr.inr.inr => exact h.elim
    case cons.cons.cons.inr.inl.inl.inl => exact h.elim
    case cons.cons.cons.inr.inl.inl.inr.inl => exact h.elim
    case cons.cons.cons.inr.inl.inl.inr.inr => exact h.elim
    case cons.cons.cons.inr.inl.inr.inl.inl => exact h.elim
    case cons.cons.cons.inr.inl.inr.inl.inr.inl => exact h.elim
    case cons.cons.cons.inr.inl.inr.inl.inr.inr => exact h.elim
    case cons.cons.cons.inr.inl.inr.inr.inl => exact h.elim
    case cons.cons.cons.inr.inl.inr.inr.inr.inl => exact h.elim
    case cons.cons.cons.inr.inl.inr.inr.inr.inr => exact h.elim
    case cons.cons.cons.inr.inr.inl.inl => exact h.elim
    case cons.cons.cons.inr.inr.inl.inr.inl => exact h.elim
    case cons.cons.cons.inr.inr.inl.inr.inr => exact h.elim
    case cons.cons.cons.inr.inr.inr.inl.inl => exact h.elim
    case cons.cons.cons.inr.inr.inr.inl.inr.inl => exact h.elim
    case cons.cons.cons.inr.inr.inr.inl.inr.inr => exact h.elim
    case cons.cons.cons.inr.inr.inr.inr.inl => exact h.elim
    case cons.cons.cons.inr.inr.inr.inr.inr.inl => exact h.elim
    case cons.cons.cons.inr.inr.inr.inr.inr.inr => exact h.elim
    obtain ⟨f, i0⟩ := x
    obtain ⟨hk, hin, h⟩ : q_ak f = 0 ∧ vp_in y (q_al f) ∧ q_At p l e R s m args below meth c Q G nL (pc + len) ls r (q_wI S f i0 y.toNatClampNeg v) := h
    cases List.mem_singleton.mp he
    have hi : i0 < q_cnt f := q_okA (q_okH (q_okD (q_okD hos))) (q_ak_lt (by rw [hk]; decide))
    exact q_store0 hx hb hW hH hS hi hk hin hd (fun H' locs' hH' hS' => h H' locs' arr hH' hS' hl hol (q_okD (q_okD (q_okD hos))))

set_option maxHeartbeats 1000000 in
theorem q_s40 (Z : q_Sx mt p l e R s m args below meth c Q G cc nL own d K ret rt post mc ms) {a b dd : Nat} {z : Int32} {zl : Int64} {w : List (Int32 × Nat)} {i : Instr} {len : Nat} (hd : decode cc pc = .ok (i, len)) (he : (i, len) ∈ q_exp K B len (40, pc, a, b, dd, z, zl, w)) (hc : q_ckx mt nL ret (40, pc, a, b, dd, z, zl, w) = true) (hrt : q_rtok rt ret = true)
    (h : q_op mt l d rt (fun b ls st S => q_At p l e R s m args below meth c Q G nL (q_bp B b) ls st S) post (40, pc, a, b, dd, z, zl, w) ls st S (fun ls st S => q_At p l e R s m args below meth c Q G nL (pc + len) ls st S)) : q_At p l e R s m args below meth c Q G nL (pc) ls st S := by
  obtain ⟨X, hK, hret, hlocks, hQ⟩ := Z
  obtain ⟨hx, hb, hml, hown, hts, hW, hR, hfo, hE⟩ := id X
  intro H locs arr hH hS hl hol hos
  rcases st with _ | ⟨v1, _ | ⟨v2, _ | ⟨v3, r⟩⟩⟩
  · exact h.elim
  · rcases v1 with x | x | x <;> exact h.elim
  · rcases v1 with x | x | x <;> rcases v2 with y | y | y <;> exact h.elim
  · rcases v1 with v | v | v <;> rcases v2 with y | y | y <;> rcases v3 with x | x | x
    case cons.cons.cons.inl.inl.inl => exact h.elim
    case cons.cons.cons.inl.inl.inr.inl => exact h.elim
    case cons.cons.cons.inl.inr.inl.inl => exact h.elim
    case cons.cons.cons.inl.inr.inl.inr.inl => exact h.elim
    case cons.cons.cons.inl.inr.inl.inr.inr => exact h.elim
    case cons.cons.cons.inl.inr.inr.inl => exact h.elim
    case cons.cons.cons.inl.inr.inr.inr.inl => exact h.elim
    case cons.cons.cons.inl.inr.inr.inr.inr => exact h.elim
    case cons.cons.cons.inr.inl.inl.inl => exact h.elim
    case cons.cons.cons.inr.inl.inl.inr.inl => exact h.elim
    case cons.cons.cons.inr.inl.inl.inr.inr => exact h.elim
    case cons.cons.cons.inr.inl.inr.inl.inl => exact h.elim
    case cons.cons.cons.inr.inl.inr.inl.inr.inl => exact h.elim
    case cons.cons.cons.inr.inl.inr.inl.inr.inr => exact h.elim
    case cons.cons.cons.inr.inl.inr.inr.inl => exact h.elim
    case cons.cons.cons.inr.inl.inr.inr.inr.inl => exact h.elim
    case cons.cons.cons.inr.inl.inr.inr.inr.inr => exact h.elim
    case cons.cons.cons.inr.inr.inl.inl => exact h.elim
    case cons.cons.cons.inr.inr.inl.inr.inl => exact h.elim
    case cons.cons.cons.inr.inr.inl.inr.inr => exact h.elim
    case cons.cons.cons.inr.inr.inr.inl.inl => exact h.elim
    case cons.cons.cons.inr.inr.inr.inl.inr.inl => exact h.elim
    case cons.cons.cons.inr.inr.inr.inl.inr.inr => exact h.elim
    case cons.cons.cons.inr.inr.inr.inr.inl => exact h.elim
    case cons.cons.cons.inr.inr.inr.inr.inr.inl => exact h.elim
    case cons.cons.cons.inr.inr.inr.inr.inr.inr => exact h.elim
    obtain ⟨f, i0⟩ := x
    obtain ⟨hk, hin, h⟩ : q_ak f = 1 ∧ vp_in y (q_al f) ∧ q_At p l e R s m args below meth c Q G nL (pc + len) ls r (q_wI S f i0 y.toNatClampNeg v.toInt8.toInt32) := h
    cases List.mem_singleton.mp he
    have hi : i0 < q_cnt f := q_okA (q_okH (q_okD (q_okD hos))) (q_ak_lt (by rw [hk]; decide))
    exact q_store1 hx hb hW hH hS hi hk hin hd (fun H' locs' hH' hS' => h H' locs' arr hH' hS' hl hol (q_okD (q_okD (q_okD hos))))

set_option maxHeartbeats 1000000 in
theorem q_s41 (Z : q_Sx mt p l e R s m args below meth c Q G cc nL own d K ret rt post mc ms) {a b dd : Nat} {z : Int32} {zl : Int64} {w : List (Int32 × Nat)} {i : Instr} {len : Nat} (hd : decode cc pc = .ok (i, len)) (he : (i, len) ∈ q_exp K B len (41, pc, a, b, dd, z, zl, w)) (hc : q_ckx mt nL ret (41, pc, a, b, dd, z, zl, w) = true) (hrt : q_rtok rt ret = true)
    (h : q_op mt l d rt (fun b ls st S => q_At p l e R s m args below meth c Q G nL (q_bp B b) ls st S) post (41, pc, a, b, dd, z, zl, w) ls st S (fun ls st S => q_At p l e R s m args below meth c Q G nL (pc + len) ls st S)) : q_At p l e R s m args below meth c Q G nL (pc) ls st S := by
  obtain ⟨X, hK, hret, hlocks, hQ⟩ := Z
  obtain ⟨hx, hb, hml, hown, hts, hW, hR, hfo, hE⟩ := id X
  intro H locs arr hH hS hl hol hos
  rcases st with _ | ⟨v1, _ | ⟨v2, _ | ⟨v3, r⟩⟩⟩
  · exact h.elim
  · rcases v1 with x | x | x <;> exact h.elim
  · rcases v1 with x | x | x <;> rcases v2 with y | y | y <;> exact h.elim
  · rcases v1 with v | v | v <;> rcases v2 with y | y | y <;> rcases v3 with x | x | x
    case cons.cons.cons.inl.inl.inl => exact h.elim
    case cons.cons.cons.inl.inl.inr.inl => exact h.elim
    case cons.cons.cons.inl.inl.inr.inr => exact h.elim
    case cons.cons.cons.inl.inr.inl.inl => exact h.elim
    case cons.cons.cons.inl.inr.inl.inr.inl => exact h.elim
    case cons.cons.cons.inl.inr.inl.inr.inr => exact h.elim
    case cons.cons.cons.inl.inr.inr.inl => exact h.elim
    case cons.cons.cons.inl.inr.inr.inr.inl => exact h.elim
    case cons.cons.cons.inl.inr.inr.inr.inr => exact h.elim
    case cons.cons.cons.inr.inl.inl.inl => exact h.elim
    case cons.cons.cons.inr.inl.inl.inr.inl => exact h.elim
    case cons.cons.cons.inr.inl.inr.inl.inl => exact h.elim
    case cons.cons.cons.inr.inl.inr.inl.inr.inl => exact h.elim
    case cons.cons.cons.inr.inl.inr.inl.inr.inr => exact h.elim
    case cons.cons.cons.inr.inl.inr.inr.inl => exact h.elim
    case cons.cons.cons.inr.inl.inr.inr.inr.inl => exact h.elim
    case cons.cons.cons.inr.inl.inr.inr.inr.inr => exact h.elim
    case cons.cons.cons.inr.inr.inl.inl => exact h.elim
    case cons.cons.cons.inr.inr.inl.inr.inl => exact h.elim
    case cons.cons.cons.inr.inr.inl.inr.inr => exact h.elim
    case cons.cons.cons.inr.inr.inr.inl.inl => exact h.elim
    case cons.cons.cons.inr.inr.inr.inl.inr.inl => exact h.elim
    case cons.cons.cons.inr.inr.inr.inl.inr.inr => exact h.elim
    case cons.cons.cons.inr.inr.inr.inr.inl => exact h.elim
    case cons.cons.cons.inr.inr.inr.inr.inr.inl => exact h.elim
    case cons.cons.cons.inr.inr.inr.inr.inr.inr => exact h.elim
    obtain ⟨f, i0⟩ := x
    obtain ⟨hk, hin, h⟩ : q_ak f = 2 ∧ vp_in y (q_al f) ∧ q_At p l e R s m args below meth c Q G nL (pc + len) ls r (q_wL S f i0 y.toNatClampNeg v) := h
    cases List.mem_singleton.mp he
    have hi : i0 < q_cnt f := q_okA (q_okH (q_okD (q_okD hos))) (q_ak_lt (by rw [hk]; decide))
    exact q_store2 hx hb hW hH hS hi hk hin hd (fun H' locs' hH' hS' => h H' locs' arr hH' hS' hl hol (q_okD (q_okD (q_okD hos))))

set_option maxHeartbeats 1000000 in
theorem q_s42 (Z : q_Sx mt p l e R s m args below meth c Q G cc nL own d K ret rt post mc ms) {a b dd : Nat} {z : Int32} {zl : Int64} {w : List (Int32 × Nat)} {i : Instr} {len : Nat} (hd : decode cc pc = .ok (i, len)) (he : (i, len) ∈ q_exp K B len (42, pc, a, b, dd, z, zl, w)) (hc : q_ckx mt nL ret (42, pc, a, b, dd, z, zl, w) = true) (hrt : q_rtok rt ret = true)
    (h : q_op mt l d rt (fun b ls st S => q_At p l e R s m args below meth c Q G nL (q_bp B b) ls st S) post (42, pc, a, b, dd, z, zl, w) ls st S (fun ls st S => q_At p l e R s m args below meth c Q G nL (pc + len) ls st S)) : q_At p l e R s m args below meth c Q G nL (pc) ls st S := by
  obtain ⟨X, hK, hret, hlocks, hQ⟩ := Z
  obtain ⟨hx, hb, hml, hown, hts, hW, hR, hfo, hE⟩ := id X
  intro H locs arr hH hS hl hol hos
  rcases st with _ | ⟨v, r⟩
  · exact h.elim
  · rcases v with x | x | x
    case cons.inl => exact h.elim
    case cons.inr.inl => exact h.elim
    obtain ⟨f, i0⟩ := x
    obtain ⟨hk, h⟩ : q_ak f < 4 ∧ q_At p l e R s m args below meth c Q G nL (pc + len) ls (.inl (Int32.ofNat (q_al f)) :: r) S := h
    cases List.mem_singleton.mp he
    have hi : i0 < q_cnt f := q_okA (q_okH hos) (q_ak_lt hk)
    exact q_alen hx hb hW hH hi hk hd (h H locs arr hH hS hl hol (q_okT trivial (q_okD hos)))

set_option maxHeartbeats 1000000 in
theorem q_s45 (Z : q_Sx mt p l e R s m args below meth c Q G cc nL own d K ret rt post mc ms) {a b dd : Nat} {z : Int32} {zl : Int64} {w : List (Int32 × Nat)} {i : Instr} {len : Nat} (hd : decode cc pc = .ok (i, len)) (he : (i, len) ∈ q_exp K B len (45, pc, a, b, dd, z, zl, w)) (hc : q_ckx mt nL ret (45, pc, a, b, dd, z, zl, w) = true) (hrt : q_rtok rt ret = true)
    (h : q_op mt l d rt (fun b ls st S => q_At p l e R s m args below meth c Q G nL (q_bp B b) ls st S) post (45, pc, a, b, dd, z, zl, w) ls st S (fun ls st S => q_At p l e R s m args below meth c Q G nL (pc + len) ls st S)) : q_At p l e R s m args below meth c Q G nL (pc) ls st S := by
  obtain ⟨X, hK, hret, hlocks, hQ⟩ := Z
  obtain ⟨hx, hb, hml, hown, hts, hW, hR, hfo, hE⟩ := id X
  intro H locs arr hH hS hl hol hos
  rcases st with _ | ⟨v, r⟩
  · exact h.elim
  · rcases v with x | x | x
    case cons.inr.inl => exact h.elim
    case cons.inr.inr => exact h.elim
    rcases r with _ | ⟨r1, r2⟩
    case cons.inl.cons => exact h.elim
    cases List.mem_singleton.mp he
    have hc := of_decide_eq_true hc
    subst hc
    have h : post (some (.inl x)) S := h
    refine hQ H locs _ (W.iret (Qc := q_Qc G rt post) hx hb hret (fun t ht hWm => ⟨⟨some (.inl x), S, rfl, ?_, h, by rw [ht]; exact hH, hW.moved hWm.alike⟩, hS.F ht⟩) (fun q hq => hS.2.2 q hq) hd hlocks)
    rw [q_rt1 hrt]
    exact ⟨x, rfl⟩

set_option maxHeartbeats 1000000 in
theorem q_s46 (Z : q_Sx mt p l e R s m args below meth c Q G cc nL own d K ret rt post mc ms) {a b dd : Nat} {z : Int32} {zl : Int64} {w : List (Int32 × Nat)} {i : Instr} {len : Nat} (hd : decode cc pc = .ok (i, len)) (he : (i, len) ∈ q_exp K B len (46, pc, a, b, dd, z, zl, w)) (hc : q_ckx mt nL ret (46, pc, a, b, dd, z, zl, w) = true) (hrt : q_rtok rt ret = true)
    (h : q_op mt l d rt (fun b ls st S => q_At p l e R s m args below meth c Q G nL (q_bp B b) ls st S) post (46, pc, a, b, dd, z, zl, w) ls st S (fun ls st S => q_At p l e R s m args below meth c Q G nL (pc + len) ls st S)) : q_At p l e R s m args below meth c Q G nL (pc) ls st S := by
  obtain ⟨X, hK, hret, hlocks, hQ⟩ := Z
  obtain ⟨hx, hb, hml, hown, hts, hW, hR, hfo, hE⟩ := id X
  intro H locs arr hH hS hl hol hos
  rcases st with _ | ⟨v, r⟩
  · exact h.elim
  · rcases v with x | x | x
    case cons.inr.inl => exact h.elim
    case cons.inr.inr => exact h.elim
    rcases r with _ | ⟨r1, r2⟩
    case cons.inl.cons => exact h.elim
    cases List.mem_singleton.mp he
    have hc := of_decide_eq_true hc
    subst hc
    obtain ⟨h01, h⟩ := h
    have h : post (some (.inl x)) S := h
    refine hQ H locs _ (W.zret (Qc := q_Qc G rt post) hx hb hret (by rcases h01 with rfl | rfl <;> rfl) (fun t ht hWm => ⟨⟨some (.inl x), S, rfl, ?_, h, by rw [ht]; exact hH, hW.moved hWm.alike⟩, hS.F ht⟩) (fun q hq => hS.2.2 q hq) hd hlocks)
    rw [q_rt1z hrt]
    exact ⟨x, rfl⟩

set_option maxHeartbeats 1000000 in
theorem q_s47 (Z : q_Sx mt p l e R s m args below meth c Q G cc nL own d K ret rt post mc ms) {a b dd : Nat} {z : Int32} {zl : Int64} {w : List (Int32 × Nat)} {i : Instr} {len : Nat} (hd : decode cc pc = .ok (i, len)) (he : (i, len) ∈ q_exp K B len (47, pc, a, b, dd, z, zl, w)) (hc : q_ckx mt nL ret (47, pc, a, b, dd, z, zl, w) = true) (hrt : q_rtok rt ret = true)
    (h : q_op mt l d rt (fun b ls st S => q_At p l e R s m args below meth c Q G nL (q_bp B b) ls st S) post (47, pc, a, b, dd, z, zl, w) ls st S (fun ls st S => q_At p l e R s m args below meth c Q G nL (pc + len) ls st S)) : q_At p l e R s m args below meth c Q G nL (pc) ls st S := by
  obtain ⟨X, hK, hret, hlocks, hQ⟩ := Z
  obtain ⟨hx, hb, hml, hown, hts, hW, hR, hfo, hE⟩ := id X
  intro H locs arr hH hS hl hol hos
  rcases st with _ | ⟨v, r⟩
  · exact h.elim
  · rcases v with x | x | x
    case cons.inl => exact h.elim
    case cons.inr.inr => exact h.elim
    rcases r with _ | ⟨r1, r2⟩
    case cons.inr.inl.cons => exact h.elim
    cases List.mem_singleton.mp he
    have hc := of_decide_eq_true hc
    subst hc
    have h : post (some (.inr (.inl x))) S := h
    refine hQ H locs _ (W.lret (Qc := q_Qc G rt post) hx hb hret (fun t ht hWm => ⟨⟨some (.inr (.inl x)), S, rfl, ?_, h, by rw [ht]; exact hH, hW.moved hWm.alike⟩, hS.F ht⟩) (fun q hq => hS.2.2 q hq) hd hlocks)
    rw [q_rt2 hrt]
    exact ⟨x, rfl⟩

set_option maxHeartbeats 1000000 in
theorem q_s49 (Z : q_Sx mt p l e R s m args below meth c Q G cc nL own d K ret rt post mc ms) {a b dd : Nat} {z : Int32} {zl : Int64} {w : List (Int32 × Nat)} {i : Instr} {len : Nat} (hd : decode cc pc = .ok (i, len)) (he : (i, len) ∈ q_exp K B len (49, pc, a, b, dd, z, zl, w)) (hc : q_ckx mt nL ret (49, pc, a, b, dd, z, zl, w) = true) (hrt : q_rtok rt ret = true)
    (h : q_op mt l d rt (fun b ls st S => q_At p l e R s m args below meth c Q G nL (q_bp B b) ls st S) post (49, pc, a, b, dd, z, zl, w) ls st S (fun ls st S => q_At p l e R s m args below meth c Q G nL (pc + len) ls st S)) : q_At p l e R s m args below meth c Q G nL (pc) ls st S := by
  obtain ⟨X, hK, hret, hlocks, hQ⟩ := Z
  obtain ⟨hx, hb, hml, hown, hts, hW, hR, hfo, hE⟩ := id X
  intro H locs arr hH hS hl hol hos
  rcases st with _ | ⟨v, r⟩
  case cons => exact h.elim
  cases List.mem_singleton.mp he
  have hc := of_decide_eq_true hc
  subst hc
  have h : post none S := h
  refine hQ H locs _ (W.vret (Qc := q_Qc G rt post) hx hb hret (fun t ht hWm => ⟨⟨none, S, rfl, ?_, h, by rw [ht]; exact hH, hW.moved hWm.alike⟩, hS.F ht⟩) (fun q hq => hS.2.2 q hq) hd hlocks)
  rw [q_rt0 hrt]
  exact rfl

set_option maxHeartbeats 1000000 in
theorem q_s51 (Z : q_Sx mt p l e R s m args below meth c Q G cc nL own d K ret rt post mc ms) {a b dd : Nat} {z : Int32} {zl : Int64} {w : List (Int32 × Nat)} {i : Instr} {len : Nat} (hd : decode cc pc = .ok (i, len)) (he : (i, len) ∈ q_exp K B len (51, pc, a, b, dd, z, zl, w)) (hc : q_ckx mt nL ret (51, pc, a, b, dd, z, zl, w) = true) (hrt : q_rtok rt ret = true)
    (h : q_op mt l d rt (fun b ls st S => q_At p l e R s m args below meth c Q G nL (q_bp B b) ls st S) post (51, pc, a, b, dd, z, zl, w) ls st S (fun ls st S => q_At p l e R s m args below meth c Q G nL (pc + len) ls st S)) : q_At p l e R s m args below meth c Q G nL (pc) ls st S := by
  obtain ⟨X, hK, hret, hlocks, hQ⟩ := Z
  obtain ⟨hx, hb, hml, hown, hts, hW, hR, hfo, hE⟩ := id X
  intro H locs arr hH hS hl hol hos
  rcases st with _ | ⟨v1, _ | ⟨v2, r⟩⟩
  · exact h.elim
  · rcases v1 with x | x | x <;> exact h.elim
  · rcases v1 with y | y | y <;> rcases v2 with x | x | x
    case cons.cons.inl.inr.inl => exact h.elim
    case cons.cons.inl.inr.inr => exact h.elim
    case cons.cons.inr.inl.inl => exact h.elim
    case cons.cons.inr.inl.inr.inl => exact h.elim
    case cons.cons.inr.inl.inr.inr => exact h.elim
    case cons.cons.inr.inr.inl => exact h.elim
    case cons.cons.inr.inr.inr.inl => exact h.elim
    case cons.cons.inr.inr.inr.inr => exact h.elim
    obtain ⟨hd0, h⟩ : (0 < d ∧ q_w r ≤ 8) ∧ q_At p l e R s m args below meth c Q G nL (pc + len) ls (.inl (if y < x then y else x) :: r) S := h
    simp only [q_exp, List.mem_map, List.mem_filter, decide_eq_true_eq] at he
    obtain ⟨q, ⟨h1, h2, h3⟩, h5⟩ := he
    cases h5
    obtain ⟨idx, y1, y2, y3⟩ := q
    dsimp only at h2 h3
    subst h2; subst h3
    have hl1 := hK.1 _ h1
    unfold q_cpok at hl1
    exact va_mmin hx hb (hml.trans hl.1.symm) hown (hts _ hl1) (hts _ q_mw.1) (hts _ q_mw.2.2) (hts _ q_mc.1) (by omega) (by rw [q_w_map]; omega) (Nat.zero_le _) (Nat.zero_le _) hd (h H locs arr hH hS hl hol (q_okT trivial (q_okD (q_okD hos))))

set_option maxHeartbeats 1000000 in
theorem q_s52 (Z : q_Sx mt p l e R s m args below meth c Q G cc nL own d K ret rt post mc ms) {a b dd : Nat} {z : Int32} {zl : Int64} {w : List (Int32 × Nat)} {i : Instr} {len : Nat} (hd : decode cc pc = .ok (i, len)) (he : (i, len) ∈ q_exp K B len (52, pc, a, b, dd, z, zl, w)) (hc : q_ckx mt nL ret (52, pc, a, b, dd, z, zl, w) = true) (hrt : q_rtok rt ret = true)
    (h : q_op mt l d rt (fun b ls st S => q_At p l e R s m args below meth c Q G nL (q_bp B b) ls st S) post (52, pc, a, b, dd, z, zl, w) ls st S (fun ls st S => q_At p l e R s m args below meth c Q G nL (pc + len) ls st S)) : q_At p l e R s m args below meth c Q G nL (pc) ls st S := by
  obtain ⟨X, hK, hret, hlocks, hQ⟩ := Z
  obtain ⟨hx, hb, hml, hown, hts, hW, hR, hfo, hE⟩ := id X
  intro H locs arr hH hS hl hol hos
  rcases st with _ | ⟨v1, _ | ⟨v2, r⟩⟩
  · exact h.elim
  · rcases v1 with x | x | x <;> exact h.elim
  · rcases v1 with y | y | y <;> rcases v2 with x | x | x
    case cons.cons.inl.inr.inl => exact h.elim
    case cons.cons.inl.inr.inr => exact h.elim
    case cons.cons.inr.inl.inl => exact h.elim
    case cons.cons.inr.inl.inr.inl => exact h.elim
    case cons.cons.inr.inl.inr.inr => exact h.elim
    case cons.cons.inr.inr.inl => exact h.elim
    case cons.cons.inr.inr.inr.inl => exact h.elim
    case cons.cons.inr.inr.inr.inr => exact h.elim
    obtain ⟨hd0, h⟩ : (0 < d ∧ q_w r ≤ 8) ∧ q_At p l e R s m args below meth c Q G nL (pc + len) ls (.inl (if x < y then y else x) :: r) S := h
    simp only [q_exp, List.mem_map, List.mem_filter, decide_eq_true_eq] at he
    obtain ⟨q, ⟨h1, h2, h3⟩, h5⟩ := he
    cases h5
    obtain ⟨idx, y1, y2, y3⟩ := q
    dsimp only at h2 h3
    subst h2; subst h3
    have hl1 := hK.1 _ h1
    unfold q_cpok at hl1
    exact va_mmax hx hb (hml.trans hl.1.symm) hown (hts _ hl1) (hts _ q_mw.2.1) (hts _ q_mw.2.2) (hts _ q_mc.2) (by omega) (by rw [q_w_map]; omega) (Nat.zero_le _) (Nat.zero_le _) hd (h H locs arr hH hS hl hol (q_okT trivial (q_okD (q_okD hos))))

set_option maxHeartbeats 1000000 in
theorem q_s48 (Z : q_Sx mt p l e R s m args below meth c Q G cc nL own d K ret rt post mc ms) {a b dd : Nat} {z : Int32} {zl : Int64} {w : List (Int32 × Nat)} {i : Instr} {len : Nat} (hd : decode cc pc = .ok (i, len)) (he : (i, len) ∈ q_exp K B len (48, pc, a, b, dd, z, zl, w)) (hc : q_ckx mt nL ret (48, pc, a, b, dd, z, zl, w) = true) (hrt : q_rtok rt ret = true)
    (h : q_op mt l d rt (fun b ls st S => q_At p l e R s m args below meth c Q G nL (q_bp B b) ls st S) post (48, pc, a, b, dd, z, zl, w) ls st S (fun ls st S => q_At p l e R s m args below meth c Q G nL (pc + len) ls st S)) : q_At p l e R s m args below meth c Q G nL (pc) ls st S := by
  obtain ⟨X, hK, hret, hlocks, hQ⟩ := Z
  obtain ⟨hx, hb, hml, hown, hts, hW, hR, hfo, hE⟩ := id X
  intro H locs arr hH hS hl hol hos
  rcases st with _ | ⟨v, r⟩
  · exact h.elim
  · rcases v with x | x | x
    case cons.inl => exact h.elim
    case cons.inr.inl => exact h.elim
    rcases r with _ | ⟨r1, r2⟩
    case cons.inr.inr.cons => exact h.elim
    cases List.mem_singleton.mp he
    obtain ⟨hr3, h⟩ : x.1 + 3 = rt ∧ post (some (.inr (.inr x))) S := h
    subst hr3
    obtain ⟨n, hn⟩ : ∃ n, ret = some (.object n) := by
      unfold q_ckx at hc
      match ret, hc with
      | some (.object n), _ => exact ⟨n, rfl⟩
    subst hn
    refine hQ H locs _ (W.aret (Qc := q_Qc G (x.1 + 3) post) hx hb hret (Or.inl ⟨n, rfl⟩) (Or.inr ⟨_, rfl⟩) (fun t ht hWm => ⟨⟨some (.inr (.inr x)), S, rfl, ?_, h, by rw [ht]; exact hH, hW.moved hWm.alike⟩, hS.F ht⟩) (fun q hq => hS.2.2 q hq) hd hlocks)
    obtain ⟨g, i0⟩ := x
    exact ⟨i0, rfl, q_okA (q_okH hos) (of_decide_eq_true hrt)⟩

set_option maxHeartbeats 1000000 in
theorem q_s43 (Z : q_Sx mt p l e R s m args below meth c Q G cc nL own d K ret rt post mc ms) {a b dd : Nat} {z : Int32} {zl : Int64} {w : List (Int32 × Nat)} {i : Instr} {len : Nat} (hd : decode cc pc = .ok (i, len)) (he : (i, len) ∈ q_exp K B len (43, pc, a, b, dd, z, zl, w)) (hc : q_ckx mt nL ret (43, pc, a, b, dd, z, zl, w) = true) (hrt : q_rtok rt ret = true)
    (h : q_op mt l d rt (fun b ls st S => q_At p l e R s m args below meth c Q G nL (q_bp B b) ls st S) post (43, pc, a, b, dd, z, zl, w) ls st S (fun ls st S => q_At p l e R s m args below meth c Q G nL (pc + len) ls st S)) : q_At p l e R s m args below meth c Q G nL (pc) ls st S := by
  obtain ⟨X, hK, hret, hlocks, hQ⟩ := Z
  obtain ⟨hx, hb, hml, hown, hts, hW, hR, hfo, hE⟩ := id X
  intro H locs arr hH hS hl hol hos
  obtain ⟨hn, hw8, h⟩ : b ≤ st.length ∧ q_w (st.drop b) ≤ 8 ∧ q_call mt l d a dd (st.take b).reverse S (fun v S' => q_At p l e R s m args below meth c Q G nL (pc + len) ls (v ++ st.drop b) S') := h
  simp only [q_exp, List.mem_map, List.mem_filter, decide_eq_true_eq] at he
  obtain ⟨q, ⟨h1, h2, h3, h4⟩, h5⟩ := he
  cases h5
  obtain ⟨idx, y1, y2, y3⟩ := q
  dsimp only at h2 h3 h4
  subst h2; subst h3; subst h4
  obtain ⟨d', post', hlt, hM, hk⟩ := q_call_elim h
  have hcp := hK.1 _ h1
  unfold q_cpok at hcp
  obtain ⟨q, hq, w1, w2, w3, w4, hdd, h150⟩ := hcp
  have hrun := va_runS (g := F0 m pc arr (st.map (q_cv G))) (As := (st.take y3).reverse.map (q_cv G)) (rest := (st.drop y3).map (q_cv G)) (Ts := q_TB) (e := e) (below := below) (meth := meth) (locs := locs) (cells := 0) (slots := 0) ⟨hx, hb, hml, hown, hts⟩ (hM G q hq) (bytes := q.2.1) (maxL := q.2.2.1) (ret := q.2.2.2) (n := y3) ⟨q_callB hts hlt hR w1 w3 w4 hdd h150, hts _ w2⟩ ⟨q_Pc_blind G _ S, fun U hU hWm => ⟨rfl, hW.moved hWm.alike, by rw [hU]; exact hH, q_oks_args hos, q_E.go hS hWm hU hE⟩⟩ rfl (by simp; omega) hl.1 (q_split hn) (by rw [q_w_map]; exact lv_roomN hw8) hd ⟨Nat.zero_le _, Nat.zero_le _⟩
  exact q_after hrun hS (fun r S' H1 locs1 hty hp hH1 hS1 => q_back (hk r S' hty hp H1 locs1 arr hH1 hS1 hl hol (q_oks_res hty (q_oks_drop hos))))

set_option maxHeartbeats 1000000 in
theorem q_s55 (Z : q_Sx mt p l e R s m args below meth c Q G cc nL own d K ret rt post mc ms) {a b dd : Nat} {z : Int32} {zl : Int64} {w : List (Int32 × Nat)} {i : Instr} {len : Nat} (hd : decode cc pc = .ok (i, len)) (he : (i, len) ∈ q_exp K B len (55, pc, a, b, dd, z, zl, w)) (hc : q_ckx mt nL ret (55, pc, a, b, dd, z, zl, w) = true) (hrt : q_rtok rt ret = true)
    (h : q_op mt l d rt (fun b ls st S => q_At p l e R s m args below meth c Q G nL (q_bp B b) ls st S) post (55, pc, a, b, dd, z, zl, w) ls st S (fun ls st S => q_At p l e R s m args below meth c Q G nL (pc + len) ls st S)) : q_At p l e R s m args below meth c Q G nL (pc) ls st S := by
  obtain ⟨X, hK, hret, hlocks, hQ⟩ := Z
  obtain ⟨hx, hb, hml, hown, hts, hW, hR, hfo, hE⟩ := id X
  intro H locs arr hH hS hl hol hos
  obtain ⟨hn, hw8, h⟩ : b ≤ st.length ∧ q_w (st.drop b) ≤ 8 ∧ q_call mt l d a dd (st.take b).reverse S (fun v S' => q_At p l e R s m args below meth c Q G nL (pc + len) ls (v ++ st.drop b) S') := h
  simp only [q_exp, List.mem_map, List.mem_filter, decide_eq_true_eq] at he
  obtain ⟨q, ⟨h1, h2, h3, h4⟩, h5⟩ := he
  cases h5
  obtain ⟨idx, y1, y2, y3⟩ := q
  dsimp only at h2 h3 h4
  subst h2; subst h3; subst h4
  obtain ⟨d', post', hlt, hM, hk⟩ := q_call_elim h
  have hcp := hK.1 _ h1
  unfold q_cpok at hcp
  obtain ⟨q, hq, ho1, hk1, hq1, w2, w3, w4, hdd, h150⟩ := hcp
  subst hk1
  have hrun := va_runSN (host := "BlockedCars") (g := F0 m pc arr (st.map (q_cv G))) (As := (st.take y3).reverse.map (q_cv G)) (rest := (st.drop y3).map (q_cv G)) (Ts := q_TB) (e := e) (below := below) (meth := meth) (locs := locs) (cells := 0) (slots := 0) ⟨hx, hb, hml, hown, hts⟩ (hM G q hq) (bytes := q.2.1) (maxL := q.2.2.1) (ret := q.2.2.2) (n := y3) ⟨q_callN hts hlt hR (by rw [hq1, ho1]; exact hE.2.2.1) w3 w4 hdd h150, hts _ w2, trivial⟩ ⟨q_Pc_blind G _ S, fun U hU hWm => ⟨rfl, hW.moved hWm.alike, by rw [hU]; exact hH, q_oks_args hos, q_E.go hS hWm hU hE⟩⟩ rfl (by simp; omega) hl.1 (q_split hn) (by rw [q_w_map]; exact lv_roomN hw8) hd ⟨Nat.zero_le _, Nat.zero_le _⟩
  exact q_after hrun hS (fun r S' H1 locs1 hty hp hH1 hS1 => q_back (hk r S' hty hp H1 locs1 arr hH1 hS1 hl hol (q_oks_res hty (q_oks_drop hos))))

set_option maxHeartbeats 1000000 in
theorem q_s44 (Z : q_Sx mt p l e R s m args below meth c Q G cc nL own d K ret rt post mc ms) {a b dd : Nat} {z : Int32} {zl : Int64} {w : List (Int32 × Nat)} {i : Instr} {len : Nat} (hd : decode cc pc = .ok (i, len)) (he : (i, len) ∈ q_exp K B len (44, pc, a, b, dd, z, zl, w)) (hc : q_ckx mt nL ret (44, pc, a, b, dd, z, zl, w) = true) (hrt : q_rtok rt ret = true)
    (h : q_op mt l d rt (fun b ls st S => q_At p l e R s m args below meth c Q G nL (q_bp B b) ls st S) post (44, pc, a, b, dd, z, zl, w) ls st S (fun ls st S => q_At p l e R s m args below meth c Q G nL (pc + len) ls st S)) : q_At p l e R s m args below meth c Q G nL (pc) ls st S := by
  obtain ⟨X, hK, hret, hlocks, hQ⟩ := Z
  obtain ⟨hx, hb, hml, hown, hts, hW, hR, hfo, hE⟩ := id X
  intro H locs arr hH hS hl hol hos
  rcases w with _ | ⟨⟨w1, hh⟩, _ | ⟨w3, w4⟩⟩
  · exact h.elim
  case cons.cons => exact h.elim
  cases has : (st.take b).reverse with
  | nil => simp only [q_op, has] at h
  | cons v0 as =>
    rcases v0 with x | x | x
    · simp only [q_op, has] at h
    · simp only [q_op, has] at h
    · obtain ⟨f, i0⟩ := x
      simp only [q_op, has] at h
      obtain ⟨rfl, hn, hw8, h⟩ := h
      simp only [q_exp, List.mem_map, List.mem_filter, decide_eq_true_eq] at he
      obtain ⟨q, ⟨h1, h2, h3, h4⟩, h5⟩ := he
      cases h5
      obtain ⟨idx, y1, y2, y3⟩ := q
      dsimp only at h2 h3 h4
      subst h2; subst h3; subst h4
      obtain ⟨d', post', hlt, hM, hk⟩ := q_call_elim h
      have hcp := hK.1 _ h1
      unfold q_cpok at hcp
      obtain ⟨q, hq, w1, w2, w3, w4, w5, hdd, h150⟩ := hcp
      have hsp := q_split (G := G) hn
      rw [has] at hsp
      have hof : q_oks (.inr (.inr (f, i0)) :: as) := has ▸ q_oks_args hos
      have hrecv := q_recv hW hfo hH (q_okA (q_okH hof) (q_ck44 hc)) hq hc
      have hlen : as.length = y3 := by
        have := congrArg List.length has
        simp at this
        omega
      have hrun := va_runV (g := F0 m pc arr (st.map (q_cv G))) (As := as.map (q_cv G)) (b := G.1 f i0) (rest := (st.drop (y3 + 1)).map (q_cv G)) (Ts := q_TB) (e := e) (below := below) (meth := meth) (locs := locs) (cells := 0) (slots := 0) ⟨hx, hb, hml, hown, hts⟩ (hM G q hq) (bytes := q.2.1) (maxL := q.2.2.1) (ret := q.2.2.2) (n := y3) (C := q.1.cls) ⟨q_callB hts hlt hR w1 w4 w5 hdd h150, hts _ w2, hts _ w3⟩ ⟨q_Pc_blind G _ S, hrecv, fun U hU hWm => ⟨rfl, hW.moved hWm.alike, by rw [hU]; exact hH, hof, q_E.go hS hWm hU hE⟩⟩ rfl (by simp [hlen]) hl.1 (by simpa [q_cv] using hsp) (by rw [q_w_map]; exact lv_roomN hw8) hd ⟨Nat.zero_le _, Nat.zero_le _⟩
      exact q_after hrun hS (fun r S' H1 locs1 hty hp hH1 hS1 => q_back (hk r S' hty hp H1 locs1 arr hH1 hS1 hl hol (q_oks_res hty (q_oks_drop hos))))

set_option maxHeartbeats 1000000 in
theorem q_s25 (Z : q_Sx mt p l e R s m args below meth c Q G cc nL own d K ret rt post mc ms) {a b dd : Nat} {z : Int32} {zl : Int64} {w : List (Int32 × Nat)} {i : Instr} {len : Nat} (hd : decode cc pc = .ok (i, len)) (he : (i, len) ∈ q_exp K B len (25, pc, a, b, dd, z, zl, w)) (hc : q_ckx mt nL ret (25, pc, a, b, dd, z, zl, w) = true) (hrt : q_rtok rt ret = true)
    (h : q_op mt l d rt (fun b ls st S => q_At p l e R s m args below meth c Q G nL (q_bp B b) ls st S) post (25, pc, a, b, dd, z, zl, w) ls st S (fun ls st S => q_At p l e R s m args below meth c Q G nL (pc + len) ls st S)) : q_At p l e R s m args below meth c Q G nL (pc) ls st S := by
  obtain ⟨X, hK, hret, hlocks, hQ⟩ := Z
  obtain ⟨hx, hb, hml, hown, hts, hW, hR, hfo, hE⟩ := id X
  intro H locs arr hH hS hl hol hos
  rcases st with _ | ⟨v, r⟩
  · exact h.elim
  · rcases v with x | x | x
    case cons.inr.inl => exact h.elim
    case cons.inr.inr => exact h.elim
    have h : q_sw x (fun b => q_At p l e R s m args below meth c Q G nL (q_bp B b) ls r S) a w := h
    have k := fun pc' (h : q_At p l e R s m args below meth c Q G nL (pc') ls r S) => h H locs arr hH hS hl hol (q_okD hos)
    simp only [q_exp, List.mem_append] at he
    rcases he with he | he
    · split at he
      · rename_i g
        cases List.mem_singleton.mp he
        rcases q_sw_elim h with ⟨j, k1, b1, hj, hkx, hb1⟩ | ⟨hno, hb1⟩
        · have gj := of_decide_eq_true (List.all_eq_true.mp g j (List.mem_range.mpr (List.getElem?_eq_some_iff.mp hj).1))
          rw [hj] at gj
          have gj : k1.toInt = _ := Option.some.inj gj
          rw [hkx] at gj
          have hjl := (List.getElem?_eq_some_iff.mp hj).1
          refine lv_tableIn (tgt := q_bp B b1) (off := (q_bp B b1 : Int) - pc) hx hb hd (by omega) (by omega) ?_ q_sx (k _ hb1)
          rw [show (x.toInt - (Option.map (fun e => e.1.toInt) w.head?).getD 0).toNat = j by omega]
          simp [hj]
        · refine lv_tableOut (tgt := q_bp B a) hx hb hd ?_ q_sx (k _ hb1)
          refine Classical.byContradiction fun hnn => ?_
          have hnn := not_or.mp hnn
          obtain ⟨j, hj0⟩ : ∃ j : Nat, x.toInt = (Option.map (fun e => e.1.toInt) w.head?).getD 0 + j := ⟨(x.toInt - (Option.map (fun e => e.1.toInt) w.head?).getD 0).toNat, by omega⟩
          have hjl : j < w.length := by omega
          have gj := of_decide_eq_true (List.all_eq_true.mp g j (List.mem_range.mpr hjl))
          rw [List.getElem?_eq_getElem hjl] at gj
          have gj : (w[j]).1.toInt = _ := Option.some.inj gj
          exact hno _ (List.getElem_mem hjl) (Int32.toInt_inj.mp (by omega))
      · cases he
    · split at he
      · rename_i g
        cases List.mem_singleton.mp he
        rcases q_sw_look (B := B) (pc := pc) h with ⟨b1, hb1, ho⟩
        exact lv_lookup (tgt := q_bp B b1) hx hb hd (by simpa using g) (by simpa using ho) q_sx (k _ hb1)
      · cases he

set_option maxHeartbeats 1000000 in
theorem q_s56 (Z : q_Sx mt p l e R s m args below meth c Q G cc nL own d K ret rt post mc ms) {a b dd : Nat} {z : Int32} {zl : Int64} {w : List (Int32 × Nat)} {i : Instr} {len : Nat} (hd : decode cc pc = .ok (i, len)) (he : (i, len) ∈ q_exp K B len (56, pc, a, b, dd, z, zl, w)) (hc : q_ckx mt nL ret (56, pc, a, b, dd, z, zl, w) = true) (hrt : q_rtok rt ret = true)
    (h : q_op mt l d rt (fun b ls st S => q_At p l e R s m args below meth c Q G nL (q_bp B b) ls st S) post (56, pc, a, b, dd, z, zl, w) ls st S (fun ls st S => q_At p l e R s m args below meth c Q G nL (pc + len) ls st S)) : q_At p l e R s m args below meth c Q G nL (pc) ls st S := by
  obtain ⟨X, hK, hret, hlocks, hQ⟩ := Z
  obtain ⟨hx, hb, hml, hown, hts, hW, hR, hfo, hE⟩ := id X
  intro H locs arr hH hS hl hol hos
  rcases st with _ | ⟨v1, _ | ⟨v2, _ | ⟨v3, _ | ⟨v4, _ | ⟨v5, r⟩⟩⟩⟩⟩
  · exact h.elim
  · exact (by simp [q_op] at h)
  · exact (by simp [q_op] at h)
  · exact (by simp [q_op] at h)
  · exact (by simp [q_op] at h)
  · rcases v1 with n | x | x
    case cons.cons.cons.cons.cons.inr.inl => simp [q_op] at h
    case cons.cons.cons.cons.cons.inr.inr => simp [q_op] at h
    rcases v2 with dp | x | x
    case cons.cons.cons.cons.cons.inl.inr.inl => simp [q_op] at h
    case cons.cons.cons.cons.cons.inl.inr.inr => simp [q_op] at h
    rcases v3 with x | x | x
    case cons.cons.cons.cons.cons.inl.inl.inl => simp [q_op] at h
    case cons.cons.cons.cons.cons.inl.inl.inr.inl => simp [q_op] at h
    rcases v4 with p9 | y | y
    case cons.cons.cons.cons.cons.inl.inl.inr.inr.inr.inl => simp [q_op] at h
    case cons.cons.cons.cons.cons.inl.inl.inr.inr.inr.inr => simp [q_op] at h
    rcases v5 with y | y | y
    case cons.cons.cons.cons.cons.inl.inl.inr.inr.inl.inl => simp [q_op] at h
    case cons.cons.cons.cons.cons.inl.inl.inr.inr.inl.inr.inl => simp [q_op] at h
    obtain ⟨g, j⟩ := x
    obtain ⟨f, i0⟩ := y
    obtain ⟨rfl, rfl, hij, rfl, rfl, rfl, hd0, hw8, h⟩ : f = 27 ∧ g = 27 ∧ ¬ i0 = j ∧ n = 6 ∧ dp = 0 ∧ p9 = 0 ∧ 0 < d ∧ q_w r ≤ 8 ∧ q_At p l e R s m args below meth c Q G nL (pc + len) ls r (q_cp6 S i0 j) := h
    simp only [q_exp, List.mem_map, List.mem_filter, decide_eq_true_eq] at he
    obtain ⟨q, ⟨h1, h2⟩, h5⟩ := he
    cases h5
    obtain ⟨idx, y1, y2, y3⟩ := q
    dsimp only at h2
    subst h2
    have hl1 := hK.1 _ h1
    unfold q_cpok at hl1
    have hi : i0 < q_cnt 27 := q_okA (q_okH (q_okD (q_okD (q_okD (q_okD hos))))) (by decide)
    have hj : j < q_cnt 27 := q_okA (q_okH (q_okD (q_okD hos))) (by decide)
    exact q_acopy hx hb (hml.trans hl.1.symm) hown (hts _ hl1) hts hW hH hS hi hj hij (by omega) (by rw [q_w_map]; omega) hd (fun H' locs' hH' hS' => h H' locs' arr hH' hS' hl hol (q_okD (q_okD (q_okD (q_okD (q_okD hos))))))

set_option maxHeartbeats 1000000 in
theorem q_s54 (Z : q_Sx mt p l e R s m args below meth c Q G cc nL own d K ret rt post mc ms) {a b dd : Nat} {z : Int32} {zl : Int64} {w : List (Int32 × Nat)} {i : Instr} {len : Nat} (hd : decode cc pc = .ok (i, len)) (he : (i, len) ∈ q_exp K B len (54, pc, a, b, dd, z, zl, w)) (hc : q_ckx mt nL ret (54, pc, a, b, dd, z, zl, w) = true) (hrt : q_rtok rt ret = true)
    (h : q_op mt l d rt (fun b ls st S => q_At p l e R s m args below meth c Q G nL (q_bp B b) ls st S) post (54, pc, a, b, dd, z, zl, w) ls st S (fun ls st S => q_At p l e R s m args below meth c Q G nL (pc + len) ls st S)) : q_At p l e R s m args below meth c Q G nL (pc) ls st S := by
  obtain ⟨X, hK, hret, hlocks, hQ⟩ := Z
  obtain ⟨hx, hb, hml, hown, hts, hW, hR, hfo, hE⟩ := id X
  intro H locs arr hH hS hl hol hos
  have h : q_At p l e R s m args below meth c Q G nL (pc + len) ls (.inr (.inr (99, a)) :: st) S := h
  simp only [q_exp, List.mem_map, List.mem_filter, decide_eq_true_eq] at he
  obtain ⟨q, ⟨h1, h2⟩, h5⟩ := he
  cases h5
  subst h2
  exact va_ldcS hx hb hown (hE.2.1 _ (hK.2.2.2 q h1)) hd (h H locs arr hH hS hl hol (q_okT (Or.inr ⟨Nat.le_of_ble_eq_true rfl, q_sref_lt _ (hK.2.2.2 q h1)⟩) hos))

set_option maxHeartbeats 1000000 in
theorem q_s57 (Z : q_Sx mt p l e R s m args below meth c Q G cc nL own d K ret rt post mc ms) {a b dd : Nat} {z : Int32} {zl : Int64} {w : List (Int32 × Nat)} {i : Instr} {len : Nat} (hd : decode cc pc = .ok (i, len)) (he : (i, len) ∈ q_exp K B len (57, pc, a, b, dd, z, zl, w)) (hc : q_ckx mt nL ret (57, pc, a, b, dd, z, zl, w) = true) (hrt : q_rtok rt ret = true)
    (h : q_op mt l d rt (fun b ls st S => q_At p l e R s m args below meth c Q G nL (q_bp B b) ls st S) post (57, pc, a, b, dd, z, zl, w) ls st S (fun ls st S => q_At p l e R s m args below meth c Q G nL (pc + len) ls st S)) : q_At p l e R s m args below meth c Q G nL (pc) ls st S := by
  obtain ⟨X, hK, hret, hlocks, hQ⟩ := Z
  obtain ⟨hx, hb, hml, hown, hts, hW, hR, hfo, hE⟩ := id X
  intro H locs arr hH hS hl hol hos
  rcases st with _ | ⟨v, r⟩
  · exact h.elim
  · rcases v with x | x | x
    case cons.inl => exact h.elim
    case cons.inr.inl => exact h.elim
    obtain ⟨g, i0⟩ := x
    obtain ⟨rfl, h⟩ : g = 99 ∧ q_At p l e R s m args below meth c Q G nL (pc + len) ls (.inr (.inr (98, i0)) :: r) S := h
    have hi : i0 < 20 := q_ok99 (q_okH hos) (by decide)
    simp only [q_exp, List.mem_map, List.mem_filter, decide_eq_true_eq] at he
    obtain ⟨q, ⟨h1, h2, h3⟩, h5⟩ := he
    cases h5
    obtain ⟨idx, y1, y2, y3⟩ := q
    dsimp only at h2 h3
    subst h2; subst h3
    have hl1 := hK.1 _ h1
    unfold q_cpok at hl1
    exact vk_getf hx hb (hE.1.1 i0 hi).2.2.1 hS hown (hts _ hl1) (fun _ h => h) hd (h H locs arr hH hS hl hol (q_okT (Or.inr ⟨Nat.le_of_ble_eq_true rfl, hi⟩) (q_okD hos)))

set_option maxHeartbeats 1000000 in
theorem q_s58 (Z : q_Sx mt p l e R s m args below meth c Q G cc nL own d K ret rt post mc ms) {a b dd : Nat} {z : Int32} {zl : Int64} {w : List (Int32 × Nat)} {i : Instr} {len : Nat} (hd : decode cc pc = .ok (i, len)) (he : (i, len) ∈ q_exp K B len (58, pc, a, b, dd, z, zl, w)) (hc : q_ckx mt nL ret (58, pc, a, b, dd, z, zl, w) = true) (hrt : q_rtok rt ret = true)
    (h : q_op mt l d rt (fun b ls st S => q_At p l e R s m args below meth c Q G nL (q_bp B b) ls st S) post (58, pc, a, b, dd, z, zl, w) ls st S (fun ls st S => q_At p l e R s m args below meth c Q G nL (pc + len) ls st S)) : q_At p l e R s m args below meth c Q G nL (pc) ls st S := by
  obtain ⟨X, hK, hret, hlocks, hQ⟩ := Z
  obtain ⟨hx, hb, hml, hown, hts, hW, hR, hfo, hE⟩ := id X
  intro H locs arr hH hS hl hol hos
  rcases st with _ | ⟨v, r⟩
  · exact h.elim
  · rcases v with x | x | x
    case cons.inl => exact h.elim
    case cons.inr.inl => exact h.elim
    obtain ⟨g, i0⟩ := x
    obtain ⟨rfl, h⟩ : g = 99 ∧ q_At p l e R s m args below meth c Q G nL (pc + len) ls (.inl 0 :: r) S := h
    have hi : i0 < 20 := q_ok99 (q_okH hos) (by decide)
    simp only [q_exp, List.mem_map, List.mem_filter, decide_eq_true_eq] at he
    obtain ⟨q, ⟨h1, h2, h3⟩, h5⟩ := he
    cases h5
    obtain ⟨idx, y1, y2, y3⟩ := q
    dsimp only at h2 h3
    subst h2; subst h3
    have hl1 := hK.1 _ h1
    unfold q_cpok at hl1
    exact vk_getf hx hb (hE.1.1 i0 hi).2.1 hS hown (hts _ hl1) (fun _ h => h) hd (h H locs arr hH hS hl hol (q_okT trivial (q_okD hos)))

set_option maxHeartbeats 1000000 in
theorem q_s59 (Z : q_Sx mt p l e R s m args below meth c Q G cc nL own d K ret rt post mc ms) {a b dd : Nat} {z : Int32} {zl : Int64} {w : List (Int32 × Nat)} {i : Instr} {len : Nat} (hd : decode cc pc = .ok (i, len)) (he : (i, len) ∈ q_exp K B len (59, pc, a, b, dd, z, zl, w)) (hc : q_ckx mt nL ret (59, pc, a, b, dd, z, zl, w) = true) (hrt : q_rtok rt ret = true)
    (h : q_op mt l d rt (fun b ls st S => q_At p l e R s m args below meth c Q G nL (q_bp B b) ls st S) post (59, pc, a, b, dd, z, zl, w) ls st S (fun ls st S => q_At p l e R s m args below meth c Q G nL (pc + len) ls st S)) : q_At p l e R s m args below meth c Q G nL (pc) ls st S := by
  obtain ⟨X, hK, hret, hlocks, hQ⟩ := Z
  obtain ⟨hx, hb, hml, hown, hts, hW, hR, hfo, hE⟩ := id X
  intro H locs arr hH hS hl hol hos
  have h : q_At p l e R s m args below meth c Q G nL (pc + len) ls (.inl 1 :: st) S := h
  simp only [q_exp, List.mem_map, List.mem_filter, decide_eq_true_eq] at he
  obtain ⟨q, ⟨h1, h2, h3⟩, h5⟩ := he
  cases h5
  obtain ⟨idx, y1, y2, y3⟩ := q
  dsimp only at h2 h3
  subst h2; subst h3
  have hl1 := hK.1 _ h1
  unfold q_cpok at hl1
  exact va_gets hx hb hE.2.2.2.1 hS hown (hts _ hl1) (fun _ h => h) hd (h H locs arr hH hS hl hol (q_okT trivial hos))

set_option maxHeartbeats 1000000 in
theorem q_s60 (Z : q_Sx mt p l e R s m args below meth c Q G cc nL own d K ret rt post mc ms) {a b dd : Nat} {z : Int32} {zl : Int64} {w : List (Int32 × Nat)} {i : Instr} {len : Nat} (hd : decode cc pc = .ok (i, len)) (he : (i, len) ∈ q_exp K B len (60, pc, a, b, dd, z, zl, w)) (hc : q_ckx mt nL ret (60, pc, a, b, dd, z, zl, w) = true) (hrt : q_rtok rt ret = true)
    (h : q_op mt l d rt (fun b ls st S => q_At p l e R s m args below meth c Q G nL (q_bp B b) ls st S) post (60, pc, a, b, dd, z, zl, w) ls st S (fun ls st S => q_At p l e R s m args below meth c Q G nL (pc + len) ls st S)) : q_At p l e R s m args below meth c Q G nL (pc) ls st S := by
  obtain ⟨X, hK, hret, hlocks, hQ⟩ := Z
  obtain ⟨hx, hb, hml, hown, hts, hW, hR, hfo, hE⟩ := id X
  intro H locs arr hH hS hl hol hos
  have h : q_At p l e R s m args below meth c Q G nL (pc + len) ls (.inr (.inr (97, 0)) :: st) S := h
  simp only [q_exp, List.mem_map, List.mem_filter, decide_eq_true_eq] at he
  obtain ⟨q, ⟨h1, h2, h3⟩, h5⟩ := he
  cases h5
  obtain ⟨idx, y1, y2, y3⟩ := q
  dsimp only at h2 h3
  subst h2; subst h3
  have hl1 := hK.1 _ h1
  unfold q_cpok at hl1
  exact va_gets hx hb hE.2.2.2.2.2.2 hS hown (hts _ hl1) (fun _ h => h) hd (h H locs arr hH hS hl hol (q_okT (Or.inr ⟨Nat.le_of_ble_eq_true rfl, Nat.le_of_ble_eq_true rfl⟩) hos))

set_option maxHeartbeats 1000000 in
theorem q_s61 (Z : q_Sx mt p l e R s m args below meth c Q G cc nL own d K ret rt post mc ms) {a b dd : Nat} {z : Int32} {zl : Int64} {w : List (Int32 × Nat)} {i : Instr} {len : Nat} (hd : decode cc pc = .ok (i, len)) (he : (i, len) ∈ q_exp K B len (61, pc, a, b, dd, z, zl, w)) (hc : q_ckx mt nL ret (61, pc, a, b, dd, z, zl, w) = true) (hrt : q_rtok rt ret = true)
    (h : q_op mt l d rt (fun b ls st S => q_At p l e R s m args below meth c Q G nL (q_bp B b) ls st S) post (61, pc, a, b, dd, z, zl, w) ls st S (fun ls st S => q_At p l e R s m args below meth c Q G nL (pc + len) ls st S)) : q_At p l e R s m args below meth c Q G nL (pc) ls st S := by
  obtain ⟨X, hK, hret, hlocks, hQ⟩ := Z
  obtain ⟨hx, hb, hml, hown, hts, hW, hR, hfo, hE⟩ := id X
  intro H locs arr hH hS hl hol hos
  rcases st with _ | ⟨v, r⟩
  · exact h.elim
  · rcases v with x | x | x
    case cons.inl => exact h.elim
    case cons.inr.inl => exact h.elim
    obtain ⟨g, i0⟩ := x
    obtain ⟨rfl, h⟩ : g = 98 ∧ q_At p l e R s m args below meth c Q G nL (pc + len) ls (.inl (Int32.ofNat (q_slen.getD i0 0)) :: r) S := h
    cases List.mem_singleton.mp he
    have hi : i0 < 20 := q_ok99 (q_okH hos) (by decide)
    exact va_tlen hx hb (hE.1.1 i0 hi).2.2.2 hS rfl hd (h H locs arr hH hS hl hol (q_okT trivial (q_okD hos)))

set_option maxHeartbeats 1000000 in
theorem q_s62 (Z : q_Sx mt p l e R s m args below meth c Q G cc nL own d K ret rt post mc ms) {a b dd : Nat} {z : Int32} {zl : Int64} {w : List (Int32 × Nat)} {i : Instr} {len : Nat} (hd : decode cc pc = .ok (i, len)) (he : (i, len) ∈ q_exp K B len (62, pc, a, b, dd, z, zl, w)) (hc : q_ckx mt nL ret (62, pc, a, b, dd, z, zl, w) = true) (hrt : q_rtok rt ret = true)
    (h : q_op mt l d rt (fun b ls st S => q_At p l e R s m args below meth c Q G nL (q_bp B b) ls st S) post (62, pc, a, b, dd, z, zl, w) ls st S (fun ls st S => q_At p l e R s m args below meth c Q G nL (pc + len) ls st S)) : q_At p l e R s m args below meth c Q G nL (pc) ls st S := by
  obtain ⟨X, hK, hret, hlocks, hQ⟩ := Z
  obtain ⟨hx, hb, hml, hown, hts, hW, hR, hfo, hE⟩ := id X
  intro H locs arr hH hS hl hol hos
  rcases st with _ | ⟨v1, _ | ⟨v2, r⟩⟩
  · exact h.elim
  · rcases v1 with x | x | x <;> exact h.elim
  · rcases v1 with y | y | y <;> rcases v2 with x | x | x
    case cons.cons.inl.inl => exact h.elim
    case cons.cons.inl.inr.inl => exact h.elim
    case cons.cons.inr.inl.inl => exact h.elim
    case cons.cons.inr.inl.inr.inl => exact h.elim
    case cons.cons.inr.inl.inr.inr => exact h.elim
    case cons.cons.inr.inr.inl => exact h.elim
    case cons.cons.inr.inr.inr.inl => exact h.elim
    case cons.cons.inr.inr.inr.inr => exact h.elim
    obtain ⟨g, i0⟩ := x
    obtain ⟨rfl, hin, h⟩ : g = 98 ∧ vp_in y (q_slen.getD i0 0) ∧ q_At p l e R s m args below meth c Q G nL (pc + len) ls (.inl ((q_sbyt.getD i0 []).getD y.toNatClampNeg 0) :: r) S := h
    cases List.mem_singleton.mp he
    have hi : i0 < 20 := q_ok99 (q_okH (q_okD hos)) (by decide)
    exact va_tb hx hb (hE.1.1 i0 hi).2.2.2 hS hin rfl hd (h H locs arr hH hS hl hol (q_okT trivial (q_okD (q_okD hos))))

set_option maxHeartbeats 1000000 in
theorem q_s63 (Z : q_Sx mt p l e R s m args below meth c Q G cc nL own d K ret rt post mc ms) {a b dd : Nat} {z : Int32} {zl : Int64} {w : List (Int32 × Nat)} {i : Instr} {len : Nat} (hd : decode cc pc = .ok (i, len)) (he : (i, len) ∈ q_exp K B len (63, pc, a, b, dd, z, zl, w)) (hc : q_ckx mt nL ret (63, pc, a, b, dd, z, zl, w) = true) (hrt : q_rtok rt ret = true)
    (h : q_op mt l d rt (fun b ls st S => q_At p l e R s m args below meth c Q G nL (q_bp B b) ls st S) post (63, pc, a, b, dd, z, zl, w) ls st S (fun ls st S => q_At p l e R s m args below meth c Q G nL (pc + len) ls st S)) : q_At p l e R s m args below meth c Q G nL (pc) ls st S := by
  obtain ⟨X, hK, hret, hlocks, hQ⟩ := Z
  obtain ⟨hx, hb, hml, hown, hts, hW, hR, hfo, hE⟩ := id X
  intro H locs arr hH hS hl hol hos
  rcases st with _ | ⟨v, r⟩
  · exact h.elim
  · rcases v with x | x | x
    case cons.inr.inl => exact h.elim
    case cons.inr.inr => exact h.elim
    have h : q_At p l e R s m args below meth c Q G nL (pc + len) ls (.inl (x.toUInt32 % 65536).toInt32 :: r) S := h
    cases List.mem_singleton.mp he
    exact lv_i2c hx hb hd rfl (h H locs arr hH hS hl hol (q_okT trivial (q_okD hos)))

set_option maxHeartbeats 1000000 in
theorem q_s64 (Z : q_Sx mt p l e R s m args below meth c Q G cc nL own d K ret rt post mc ms) {a b dd : Nat} {z : Int32} {zl : Int64} {w : List (Int32 × Nat)} {i : Instr} {len : Nat} (hd : decode cc pc = .ok (i, len)) (he : (i, len) ∈ q_exp K B len (64, pc, a, b, dd, z, zl, w)) (hc : q_ckx mt nL ret (64, pc, a, b, dd, z, zl, w) = true) (hrt : q_rtok rt ret = true)
    (h : q_op mt l d rt (fun b ls st S => q_At p l e R s m args below meth c Q G nL (q_bp B b) ls st S) post (64, pc, a, b, dd, z, zl, w) ls st S (fun ls st S => q_At p l e R s m args below meth c Q G nL (pc + len) ls st S)) : q_At p l e R s m args below meth c Q G nL (pc) ls st S := by
  obtain ⟨X, hK, hret, hlocks, hQ⟩ := Z
  obtain ⟨hx, hb, hml, hown, hts, hW, hR, hfo, hE⟩ := id X
  intro H locs arr hH hS hl hol hos
  cases has : (st.take b).reverse with
  | nil => simp only [q_op, has] at h
  | cons v0 as =>
    rcases v0 with x | x | x
    · simp only [q_op, has] at h
    · simp only [q_op, has] at h
    · obtain ⟨f, i0⟩ := x
      simp only [q_op, has] at h
      obtain ⟨rfl, hn, hw8, h⟩ := h
      simp only [q_exp, List.mem_map, List.mem_filter, decide_eq_true_eq] at he
      obtain ⟨q, ⟨h1, h2, h3, h4⟩, h5⟩ := he
      cases h5
      obtain ⟨idx, y1, y2, y3⟩ := q
      dsimp only at h2 h3 h4
      subst h2; subst h3; subst h4
      obtain ⟨d', post', hlt, hM, hk⟩ := q_call_elim h
      have hcp := hK.1 _ h1
      unfold q_cpok at hcp
      obtain ⟨q, hq, w1, w2, w3, w4, w5, hdd, h150⟩ := hcp
      have hsp := q_split (G := G) hn
      rw [has] at hsp
      have hof : q_oks (.inr (.inr (99, i0)) :: as) := has ▸ q_oks_args hos
      have hi : i0 < 20 := q_ok99 (q_okH hof) (by decide)
      have hcl : q.1.cls = "java/lang/String" := by
        have hc : (match mt y2 with
          | some q => decide (q.1.cls = "java/lang/String")
          | _ => false) = true := hc
        rw [hq] at hc
        exact of_decide_eq_true hc
      have hrecv : ∃ cellB : Cell, H[G.1 99 i0]? = some cellB ∧ cellB.vm.isStatics = false ∧ s.vm.findClass q.1.cls = some cellB.cls := by
        rw [hcl]
        exact vk_recv hE.1 hi hS
      have hlen : as.length = y3 := by
        have := congrArg List.length has
        simp at this
        omega
      have hrun := va_runV (g := F0 m pc arr (st.map (q_cv G))) (As := as.map (q_cv G)) (b := G.1 99 i0) (rest := (st.drop (y3 + 1)).map (q_cv G)) (Ts := q_TB) (e := e) (below := below) (meth := meth) (locs := locs) (cells := 0) (slots := 0) ⟨hx, hb, hml, hown, hts⟩ (hM G q hq) (bytes := q.2.1) (maxL := q.2.2.1) (ret := q.2.2.2) (n := y3) (C := q.1.cls) ⟨q_callB hts hlt hR w1 w4 w5 hdd h150, hts _ w2, hts _ w3⟩ ⟨q_Pc_blind G _ S, hrecv, fun U hU hWm => ⟨rfl, hW.moved hWm.alike, by rw [hU]; exact hH, hof, q_E.go hS hWm hU hE⟩⟩ rfl (by simp [hlen]) hl.1 (by simpa [q_cv] using hsp) (by rw [q_w_map]; exact lv_roomN hw8) hd ⟨Nat.zero_le _, Nat.zero_le _⟩
      exact q_after hrun hS (fun r S' H1 locs1 hty hp hH1 hS1 => q_back (hk r S' hty hp H1 locs1 arr hH1 hS1 hl hol (q_oks_res hty (q_oks_drop hos))))

set_option maxHeartbeats 1000000 in
theorem q_s65 (Z : q_Sx mt p l e R s m args below meth c Q G cc nL own d K ret rt post mc ms) {a b dd : Nat} {z : Int32} {zl : Int64} {w : List (Int32 × Nat)} {i : Instr} {len : Nat} (hd : decode cc pc = .ok (i, len)) (he : (i, len) ∈ q_exp K B len (65, pc, a, b, dd, z, zl, w)) (hc : q_ckx mt nL ret (65, pc, a, b, dd, z, zl, w) = true) (hrt : q_rtok rt ret = true)
    (h : q_op mt l d rt (fun b ls st S => q_At p l e R s m args below meth c Q G nL (q_bp B b) ls st S) post (65, pc, a, b, dd, z, zl, w) ls st S (fun ls st S => q_At p l e R s m args below meth c Q G nL (pc + len) ls st S)) : q_At p l e R s m args below meth c Q G nL (pc) ls st S := by
  obtain ⟨X, hK, hret, hlocks, hQ⟩ := Z
  obtain ⟨hx, hb, hml, hown, hts, hW, hR, hfo, hE⟩ := id X
  intro H locs arr hH hS hl hol hos
  rcases st with _ | ⟨v, r⟩
  · exact h.elim
  · rcases v with x | x | x
    case cons.inr.inl => exact h.elim
    case cons.inr.inr => exact h.elim
    rcases r with _ | ⟨r1, r2⟩
    case cons.inl.cons => exact h.elim
    cases List.mem_singleton.mp he
    have hc := of_decide_eq_true hc
    subst hc
    obtain ⟨hnar, h⟩ := h
    have h : post (some (.inl x)) S := h
    refine hQ H locs _ (W.zret (Qc := q_Qc G rt post) hx hb hret (by rw [← hnar]; exact pk_nb x) (fun t ht hWm => ⟨⟨some (.inl x), S, rfl, ?_, h, by rw [ht]; exact hH, hW.moved hWm.alike⟩, hS.F ht⟩) (fun q hq => hS.2.2 q hq) hd hlocks)
    rw [q_rt1b hrt]
    exact ⟨x, rfl⟩

set_option maxHeartbeats 1000000 in
theorem q_s66 (Z : q_Sx mt p l e R s m args below meth c Q G cc nL own d K ret rt post mc ms) {a b dd : Nat} {z : Int32} {zl : Int64} {w : List (Int32 × Nat)} {i : Instr} {len : Nat} (hd : decode cc pc = .ok (i, len)) (he : (i, len) ∈ q_exp K B len (66, pc, a, b, dd, z, zl, w)) (hc : q_ckx mt nL ret (66, pc, a, b, dd, z, zl, w) = true) (hrt : q_rtok rt ret = true)
    (h : q_op mt l d rt (fun b ls st S => q_At p l e R s m args below meth c Q G nL (q_bp B b) ls st S) post (66, pc, a, b, dd, z, zl, w) ls st S (fun ls st S => q_At p l e R s m args below meth c Q G nL (pc + len) ls st S)) : q_At p l e R s m args below meth c Q G nL (pc) ls st S := by
  obtain ⟨X, hK, hret, hlocks, hQ⟩ := Z
  obtain ⟨hx, hb, hml, hown, hts, hW, hR, hfo, hE⟩ := id X
  intro H locs arr hH hS hl hol hos
  rcases st with _ | ⟨v, r⟩
  · exact h.elim
  · rcases v with x | x | x
    case cons.inr.inl => exact h.elim
    case cons.inr.inr => exact h.elim
    rcases r with _ | ⟨r1, r2⟩
    case cons.inl.cons => exact h.elim
    cases List.mem_singleton.mp he
    have hc := of_decide_eq_true hc
    subst hc
    obtain ⟨hnar, h⟩ := h
    have h : post (some (.inl x)) S := h
    refine hQ H locs _ (W.zret (Qc := q_Qc G rt post) hx hb hret (by rw [← hnar]; exact pk_nc x) (fun t ht hWm => ⟨⟨some (.inl x), S, rfl, ?_, h, by rw [ht]; exact hH, hW.moved hWm.alike⟩, hS.F ht⟩) (fun q hq => hS.2.2 q hq) hd hlocks)
    rw [q_rt1c hrt]
    exact ⟨x, rfl⟩

end QU
end
section
section QX
variable {mt : Nat → Option qM} {p : Program} {l : Launch} {e : Env} {R : Room} {s : State} {m : MethodId} {args : Array Value} {below : List Frame} {meth : Method} {c : Code} {Q : State → Prop} {G : qG} {cc : ByteArray} {nL : Nat} {own : String} {d : Nat}
variable {pc : Nat} {ls : qLs} {st : List qV} {S : qSt} {K : qK} {B : List Nat} {ret : Option FieldType} {rt : Nat} {post : Option qV → qSt → Prop} {mc ms : Nat}
theorem q_if_mono {a : Nat} {x y : Int32} {A A' B B' : Prop} (h1 : A → A') (h2 : B → B') (h : q_if a x y A B) : q_if a x y A' B' := by
  unfold q_if at *
  split at h <;> exact ⟨fun q => h1 (h.1 q), fun q => h2 (h.2 q)⟩
theorem q_sw_mono {x : Int32} {J J' : Nat → Prop} {a : Nat} (hJ : ∀ b, J b → J' b) : ∀ {w : List (Int32 × Nat)}, q_sw x J a w → q_sw x J' a w
  | [], h => hJ a h
  | (k, b) :: r, h => ⟨fun q => hJ b (h.1 q), fun q => q_sw_mono hJ (h.2 q)⟩
theorem q_call_mono {mt : Nat → Option qM} {l : Launch} {d k rt : Nat} {as : List qV} {S : qSt} {K K' : List qV → qSt → Prop} (hK : ∀ v S, K v S → K' v S) (h : q_call mt l d k rt as S K) : q_call mt l d k rt as S K' := by
  unfold q_call at *
  match rt, h with
  | 0, ⟨d', post, h1, h2, h3⟩ => exact ⟨d', post, h1, h2, fun S' q => hK _ _ (h3 S' q)⟩
  | 1, ⟨d', post, h1, h2, h3⟩ => exact ⟨d', post, h1, h2, fun x S' q => hK _ _ (h3 x S' q)⟩
  | 2, ⟨d', post, h1, h2, h3⟩ => exact ⟨d', post, h1, h2, fun x S' q => hK _ _ (h3 x S' q)⟩
  | n + 3, ⟨d', post, h1, h2, h3⟩ => exact ⟨d', post, h1, h2, fun x S' q => hK _ _ (h3 x S' q)⟩
theorem q_ldI_mono {o : Option qV} {k k' : qV → Prop} (hk : ∀ v, k v → k' v) (h : q_ldI o k) : q_ldI o k' := by
  rcases o with _ | (x | x | x) <;> first | exact h.elim | exact hk _ h
theorem q_ldL_mono {o : Option qV} {k k' : qV → Prop} (hk : ∀ v, k v → k' v) (h : q_ldL o k) : q_ldL o k' := by
  rcases o with _ | (x | x | x) <;> first | exact h.elim | exact hk _ h
theorem q_ldR_mono {o : Option qV} {k k' : qV → Prop} (hk : ∀ v, k v → k' v) (h : q_ldR o k) : q_ldR o k' := by
  rcases o with _ | (x | x | x) <;> first | exact h.elim | exact hk _ h
theorem q_inc_mono {o : Option qV} {z : Int32} {k k' : qV → Prop} (hk : ∀ v, k v → k' v) (h : q_inc o z k) : q_inc o z k' := by
  rcases o with _ | (x | x | x) <;> first | exact h.elim | exact hk _ h
set_option maxHeartbeats 4000000 in
theorem q_mono {mt : Nat → Option qM} {l : Launch} {d rt : Nat} {J J' : Nat → qLs → List qV → qSt → Prop} {RET : Option qV → qSt → Prop} {o : qO} {ls : qLs} {st : List qV} {S : qSt} {k k' : qLs → List qV → qSt → Prop} (hJ : ∀ b ls st S, J b ls st S → J' b ls st S) (hk : ∀ ls st S, k ls st S → k' ls st S)
    (h : q_op mt l d rt J RET o ls st S k) : q_op mt l d rt J' RET o ls st S k' := by
  unfold q_op at *
  split at h
  all_goals first
    | exact hk _ _ _ h
    | exact q_ldI_mono (fun _ q => hk _ _ _ q) h
    | exact q_ldL_mono (fun _ q => hk _ _ _ q) h
    | exact q_ldR_mono (fun _ q => hk _ _ _ q) h
    | exact q_inc_mono (fun _ q => hk _ _ _ q) h
    | exact hJ _ _ _ _ h
    | exact ⟨h.1, h.2.1, q_call_mono (fun _ _ q => hk _ _ _ q) h.2.2⟩
    | exact h
    | skip
  all_goals split at h
  all_goals first
    | exact h.elim
    | exact hk _ _ _ h
    | exact hJ _ _ _ _ h
    | exact ⟨h.1, hk _ _ _ h.2⟩
    | exact ⟨h.1, h.2.1, hk _ _ _ h.2.2⟩
    | exact q_if_mono (hJ _ _ _ _) (hk _ _ _) h
    | exact q_sw_mono (fun _ q => hJ _ _ _ _ q) h
    | exact ⟨h.1, h.2.1, h.2.2.1, q_call_mono (fun _ _ q => hk _ _ _ q) h.2.2.2⟩
    | exact ⟨h.1, h.2.1, h.2.2.1, h.2.2.2.1, h.2.2.2.2.1, h.2.2.2.2.2.1, h.2.2.2.2.2.2.1, h.2.2.2.2.2.2.2.1, hk _ _ _ h.2.2.2.2.2.2.2.2⟩
    | (obtain ⟨h1, h2, d', v, h3, h4, h5⟩ := h; exact ⟨h1, h2, d', v, h3, h4, hk _ _ _ h5⟩)
    | exact h
    | skip
  all_goals obtain ⟨h0, h⟩ := h
  all_goals refine ⟨h0, ?_⟩
  all_goals split at h
  all_goals first
    | exact h.elim
    | exact hk _ _ _ h
theorem q_step (Z : q_Sx mt p l e R s m args below meth c Q G cc nL own d K ret rt post mc ms) {t a b dd : Nat} {z : Int32} {zl : Int64} {w : List (Int32 × Nat)} {i : Instr} {len : Nat} (hd : decode cc pc = .ok (i, len)) (he : (i, len) ∈ q_exp K B len (t, pc, a, b, dd, z, zl, w)) (hc : q_ckx mt nL ret (t, pc, a, b, dd, z, zl, w) = true) (hrt : q_rtok rt ret = true)
    (h : q_op mt l d rt (fun b ls st S => q_At p l e R s m args below meth c Q G nL (q_bp B b) ls st S) post (t, pc, a, b, dd, z, zl, w) ls st S (fun ls st S => q_At p l e R s m args below meth c Q G nL (pc + len) ls st S)) (ht : t ≠ 50) : q_At p l e R s m args below meth c Q G nL pc ls st S := by
  match t, he, hc, h, ht with
  | 0, he, hc, h, ht => exact q_s0 Z hd he hc hrt h
  | 1, he, hc, h, ht => exact q_s1 Z hd he hc hrt h
  | 2, he, hc, h, ht => exact q_s2 Z hd he hc hrt h
  | 3, he, hc, h, ht => exact q_s3 Z hd he hc hrt h
  | 4, he, hc, h, ht => exact q_s4 Z hd he hc hrt h
  | 5, he, hc, h, ht => exact q_s5 Z hd he hc hrt h
  | 6, he, hc, h, ht => exact q_s6 Z hd he hc hrt h
  | 7, he, hc, h, ht => exact q_s7 Z hd he hc hrt h
  | 8, he, hc, h, ht => exact q_s8 Z hd he hc hrt h
  | 9, he, hc, h, ht => exact q_s9 Z hd he hc hrt h
  | 10, he, hc, h, ht => exact q_s10 Z hd he hc hrt h
  | 11, he, hc, h, ht => exact q_s11 Z hd he hc hrt h
  | 12, he, hc, h, ht => exact q_s12 Z hd he hc hrt h
  | 13, he, hc, h, ht => exact q_s13 Z hd he hc hrt h
  | 14, he, hc, h, ht => exact q_s14 Z hd he hc hrt h
  | 15, he, hc, h, ht => exact q_s15 Z hd he hc hrt h
  | 16, he, hc, h, ht => exact q_s16 Z hd he hc hrt h
  | 17, he, hc, h, ht => exact q_s17 Z hd he hc hrt h
  | 18, he, hc, h, ht => exact q_s18 Z hd he hc hrt h
  | 19, he, hc, h, ht => exact q_s19 Z hd he hc hrt h
  | 20, he, hc, h, ht => exact q_s20 Z hd he hc hrt h
  | 21, he, hc, h, ht => exact q_s21 Z hd he hc hrt h
  | 22, he, hc, h, ht => exact q_s22 Z hd he hc hrt h
  | 23, he, hc, h, ht => exact q_s23 Z hd he hc hrt h
  | 24, he, hc, h, ht => exact q_s24 Z hd he hc hrt h
  | 25, he, hc, h, ht => exact q_s25 Z hd he hc hrt h
  | 26, he, hc, h, ht => exact q_s26 Z hd he hc hrt h
  | 27, he, hc, h, ht => exact q_s27 Z hd he hc hrt h
  | 28, he, hc, h, ht => exact q_s28 Z hd he hc hrt h
  | 29, he, hc, h, ht => exact q_s29 Z hd he hc hrt h
  | 30, he, hc, h, ht => exact q_s30 Z hd he hc hrt h
  | 31, he, hc, h, ht => exact q_s31 Z hd he hc hrt h
  | 32, he, hc, h, ht => exact q_s32 Z hd he hc hrt h
  | 33, he, hc, h, ht => exact q_s33 Z hd he hc hrt h
  | 34, he, hc, h, ht => exact q_s34 Z hd he hc hrt h
  | 35, he, hc, h, ht => exact q_s35 Z hd he hc hrt h
  | 36, he, hc, h, ht => exact q_s36 Z hd he hc hrt h
  | 37, he, hc, h, ht => exact q_s37 Z hd he hc hrt h
  | 38, he, hc, h, ht => exact q_s38 Z hd he hc hrt h
  | 39, he, hc, h, ht => exact q_s39 Z hd he hc hrt h
  | 40, he, hc, h, ht => exact q_s40 Z hd he hc hrt h
  | 41, he, hc, h, ht => exact q_s41 Z hd he hc hrt h
  | 42, he, hc, h, ht => exact q_s42 Z hd he hc hrt h
  | 43, he, hc, h, ht => exact q_s43 Z hd he hc hrt h
  | 44, he, hc, h, ht => exact q_s44 Z hd he hc hrt h
  | 45, he, hc, h, ht => exact q_s45 Z hd he hc hrt h
  | 46, he, hc, h, ht => exact q_s46 Z hd he hc hrt h
  | 47, he, hc, h, ht => exact q_s47 Z hd he hc hrt h
  | 48, he, hc, h, ht => exact q_s48 Z hd he hc hrt h
  | 49, he, hc, h, ht => exact q_s49 Z hd he hc hrt h
  | 51, he, hc, h, ht => exact q_s51 Z hd he hc hrt h
  | 52, he, hc, h, ht => exact q_s52 Z hd he hc hrt h
  | 54, he, hc, h, ht => exact q_s54 Z hd he hc hrt h
  | 55, he, hc, h, ht => exact q_s55 Z hd he hc hrt h
  | 56, he, hc, h, ht => exact q_s56 Z hd he hc hrt h
  | 57, he, hc, h, ht => exact q_s57 Z hd he hc hrt h
  | 58, he, hc, h, ht => exact q_s58 Z hd he hc hrt h
  | 59, he, hc, h, ht => exact q_s59 Z hd he hc hrt h
  | 60, he, hc, h, ht => exact q_s60 Z hd he hc hrt h
  | 61, he, hc, h, ht => exact q_s61 Z hd he hc hrt h
  | 62, he, hc, h, ht => exact q_s62 Z hd he hc hrt h
  | 63, he, hc, h, ht => exact q_s63 Z hd he hc hrt h
  | 64, he, hc, h, ht => exact q_s64 Z hd he hc hrt h
  | 65, he, hc, h, ht => exact q_s65 Z hd he hc hrt h
  | 66, he, hc, h, ht => exact q_s66 Z hd he hc hrt h
  | 50, he, hc, h, ht => exact absurd rfl ht
  | 53, he, hc, h, ht => cases he
  | n + 67, he, hc, h, ht => cases he
theorem q_block (Z : q_Sx mt p l e R s m args below meth c Q G cc nL own d K ret rt post mc ms) (hrt : q_rtok rt ret = true) : ∀ {os : List qO} {pc : Nat} {ls : qLs} {st : List qV} {S : qSt}, q_ckb mt cc K B nL ret pc os = true →
    q_run mt l d rt (fun b ls st S => q_At p l e R s m args below meth c Q G nL (q_bp B b) ls st S) post os ls st S → q_At p l e R s m args below meth c Q G nL pc ls st S
  | [], pc, ls, st, S, hc, h => h.elim
  | (t, pc', a, b, dd, z, zl, w) :: os, pc, ls, st, S, hc, h => by
    unfold q_ckb at hc
    by_cases ht : t = 50
    · subst ht
      rw [if_pos rfl] at hc
      have hc : q_bp B a = pc := of_decide_eq_true hc
      subst hc
      exact h
    · rw [if_neg (show ¬ (t, pc', a, b, dd, z, zl, w).1 = 50 from ht)] at hc
      cases hd : decode cc pc with
      | error er => rw [hd] at hc; cases hc
      | ok q =>
        obtain ⟨i, len⟩ := q
        rw [hd] at hc
        simp only [Bool.and_eq_true, List.any_eq_true, decide_eq_true_eq] at hc
        obtain ⟨h1, ⟨x, hx1, hx2⟩, h3, h4⟩ := hc
        subst hx2
        subst h1
        refine q_step Z hd hx1 h3 hrt (t := t) (a := a) (b := b) (dd := dd) (z := z) (zl := zl) (w := w) ?_ ht
        have key : ∀ (k k' : qLs → List qV → qSt → Prop), (∀ ls st S, k ls st S → k' ls st S) → q_op mt l d rt (fun b ls st S => q_At p l e R s m args below meth c Q G nL (q_bp B b) ls st S) post (t, pc', a, b, dd, z, zl, w) ls st S k → q_op mt l d rt (fun b ls st S => q_At p l e R s m args below meth c Q G nL (q_bp B b) ls st S) post (t, pc', a, b, dd, z, zl, w) ls st S k' := fun k k' hkk => q_mono (fun _ _ _ _ h => h) hkk
        exact key _ _ (fun ls st S hr => q_block Z hrt h4 hr) h
end QX
end
section
def q_ent : List qV → qLs
  | [] => []
  | .inl x :: r => some (.inl x) :: q_ent r
  | .inr (.inl x) :: r => some (.inr (.inl x)) :: none :: q_ent r
  | .inr (.inr x) :: r => some (.inr (.inr x)) :: q_ent r
def q_pad : Nat → qLs → qLs
  | 0, _ => []
  | n + 1, [] => none :: q_pad n []
  | n + 1, x :: xs => x :: q_pad n xs
def q_msk : List Bool → qLs → qLs
  | true :: m, x :: xs => x :: q_msk m xs
  | false :: m, _ :: xs => none :: q_msk m xs
  | _, _ => []
def q_cut : List (Nat × List Bool) → Nat → Option (List Bool)
  | [], _ => none
  | (c, m) :: r, b => if b = c then some m else q_cut r b
def q_nth : List (List qO) → Nat → List qO
  | [], _ => []
  | x :: _, 0 => x
  | _ :: xs, n + 1 => q_nth xs n
def q_vc (mt : Nat → Option qM) (l : Launch) (d rt : Nat) (RET : Option qV → qSt → Prop) (code : List (List qO)) (cuts : List (Nat × List Bool)) (AT : Nat → qLs → List qV → qSt → Prop) : Nat → Nat → qLs → List qV → qSt → Prop
  | 0, b, ls, st, S => AT b ls st S
  | n + 1, b, ls, st, S => match q_cut cuts b with
    | some cm => AT b (q_msk cm ls) st S
    | none => q_run mt l d rt (fun b ls st S => q_vc mt l d rt RET code cuts AT n b ls st S) RET (q_nth code b) ls st S
theorem q_run_mono {mt : Nat → Option qM} {l : Launch} {d rt : Nat} {J J' : Nat → qLs → List qV → qSt → Prop} {RET : Option qV → qSt → Prop} (hJ : ∀ b ls st S, J b ls st S → J' b ls st S) : ∀ {os : List qO} {ls : qLs} {st : List qV} {S : qSt}, q_run mt l d rt J RET os ls st S → q_run mt l d rt J' RET os ls st S
  | [], _, _, _, h => h
  | o :: os, _, _, _, h => q_mono hJ (fun _ _ _ q => q_run_mono hJ q) h
theorem q_msk_get : ∀ {mk : List Bool} {ls : qLs} {j : Nat} {v : qV}, q_get (q_msk mk ls) j = some v → q_get ls j = some v
  | true :: m, x :: xs, 0, v, h => h
  | true :: m, x :: xs, j + 1, v, h => q_msk_get (mk := m) (ls := xs) h
  | false :: m, x :: xs, 0, v, h => by cases h
  | false :: m, x :: xs, j + 1, v, h => q_msk_get (mk := m) (ls := xs) h
  | [], _, _, _, h => by cases h
  | true :: _, [], _, _, h => by cases h
  | false :: _, [], _, _, h => by cases h
theorem q_get_iff : ∀ {L : qLs} {w : qV}, some w ∈ L ↔ ∃ j, q_get L j = some w
  | [], w => by simp [q_get]
  | x :: xs, w => by
    constructor
    · intro h
      rcases List.mem_cons.mp h with e | e
      · exact ⟨0, e.symm⟩
      · obtain ⟨j, hj⟩ := q_get_iff.mp e
        exact ⟨j + 1, hj⟩
    · rintro ⟨j, hj⟩
      exact q_get_mem hj
theorem q_At_sub {p : Program} {l : Launch} {e : Env} {R : Room} {s : State} {m : MethodId} {args : Array Value} {below : List Frame} {meth : Method} {c : Code} {Q : State → Prop} {G : qG} {nL pc : Nat} {ls ls' : qLs} {st : List qV} {S : qSt} (hs : ∀ j v, q_get ls' j = some v → q_get ls j = some v)
    (h : q_At p l e R s m args below meth c Q G nL pc ls' st S) : q_At p l e R s m args below meth c Q G nL pc ls st S := by
  intro H locs arr hH hS hl hol hos
  refine h H locs arr hH hS ⟨hl.1, hl.2.1, fun q hq => ?_⟩ (fun v hv => ?_) hos
  · obtain ⟨j, v, hv, rfl⟩ := q_enc_mem.mp hq
    exact hl.2.2 _ (q_enc_mem.mpr ⟨j, v, hs j v hv, rfl⟩)
  · obtain ⟨j, hj⟩ := q_get_iff.mp hv
    exact hol v (q_get_mem (hs j v hj))
/-- the method's code is what the ops say -/
def q_mok (mt : Nat → Option qM) (k : Nat) (own : String) (K : qK) (B : List Nat) (code : List (List qO)) (rt nL : Nat) : Prop := ∃ q, mt k = some q ∧ q.1.cls = own ∧ plainName q.1.cls = true ∧ q.2.2.1 = nL ∧ q_ckc mt q.2.1 K B q.2.2.1 q.2.2.2 code = true ∧ q_rtok rt q.2.2.2 = true ∧ q_kok mt own K ∧ q_bp B 0 = 0 ∧ 0 < code.length
theorem q_nth_getD : ∀ (code : List (List qO)) (b : Nat), q_nth code b = code.getD b []
  | [], b => by simp [q_nth]
  | x :: xs, 0 => rfl
  | x :: xs, b + 1 => by simp only [q_nth, q_nth_getD xs b]; simp
theorem q_ent_in {G : qG} : ∀ {as : List qV} {k : Nat} {q : Nat × Value}, q ∈ q_enc G k (q_ent as) → q ∈ lv_args k (as.map (q_cv G))
  | [], k, q, h => by cases h
  | .inl x :: r, k, q, h => by
    rcases List.mem_cons.mp h with rfl | h
    · exact List.mem_cons_self
    · exact List.mem_cons_of_mem _ (q_ent_in h)
  | .inr (.inl x) :: r, k, q, h => by
    rcases List.mem_cons.mp h with rfl | h
    · exact List.mem_cons_self
    · exact List.mem_cons_of_mem _ (q_ent_in (show q ∈ q_enc G (k + 2) (q_ent r) from h))
  | .inr (.inr x) :: r, k, q, h => by
    rcases List.mem_cons.mp h with rfl | h
    · exact List.mem_cons_self
    · exact List.mem_cons_of_mem _ (q_ent_in h)
theorem q_pad_get : ∀ {n : Nat} {L : qLs} {j : Nat} {v : qV}, q_get (q_pad n L) j = some v → q_get L j = some v
  | 0, L, j, v, h => by cases h
  | n + 1, [], 0, v, h => by cases h
  | n + 1, [], j + 1, v, h => by have := q_pad_get (n := n) (L := []) (j := j) h; cases this
  | n + 1, x :: xs, 0, v, h => h
  | n + 1, x :: xs, j + 1, v, h => q_pad_get (n := n) (L := xs) (j := j) h
theorem q_ent_ok : ∀ {as : List qV}, q_oks as → q_okl (q_ent as)
  | [], h, v, hv => by cases hv
  | .inl x :: r, h, v, hv => by
    rcases List.mem_cons.mp hv with e | hv
    · cases e; trivial
    · exact q_ent_ok (q_okD h) v hv
  | .inr (.inl x) :: r, h, v, hv => by
    rcases List.mem_cons.mp hv with e | hv
    · cases e; trivial
    · rcases List.mem_cons.mp hv with e | hv
      · cases e
      · exact q_ent_ok (q_okD h) v hv
  | .inr (.inr x) :: r, h, v, hv => by
    rcases List.mem_cons.mp hv with e | hv
    · cases e; exact q_okH h
    · exact q_ent_ok (q_okD h) v hv
theorem q_ent_len {G : qG} : ∀ {as : List qV}, (lg_sl (as.map (q_cv G))).length = (q_ent as).length
  | [] => rfl
  | .inl x :: r => by
    have := q_ent_len (G := G) (as := r)
    unfold lg_sl at *
    simp only [List.map_cons, List.flatMap_cons, List.length_append, q_ent, List.length_cons, this]
    simp [q_cv, Value.category]
    omega
  | .inr (.inl x) :: r => by
    have := q_ent_len (G := G) (as := r)
    unfold lg_sl at *
    simp only [List.map_cons, List.flatMap_cons, List.length_append, q_ent, List.length_cons, this]
    simp [q_cv, Value.category]
    omega
  | .inr (.inr x) :: r => by
    have := q_ent_len (G := G) (as := r)
    unfold lg_sl at *
    simp only [List.map_cons, List.flatMap_cons, List.length_append, q_ent, List.length_cons, this]
    simp [q_cv, Value.category]
    omega
/-- A METHOD'S CONTRACT out of its verification conditions: AT is any predicate that the steps reach -/
theorem q_meth {mt : Nat → Option qM} {l : Launch} {d k rt nL : Nat} {own : String} {K : qK} {B : List Nat} {code : List (List qO)} (hok : q_mok mt k own K B code rt nL) (hfo : ∀ f, q_fo f) {as : List qV} {S : qSt} {post : Option qV → qSt → Prop} (hsz : (q_ent as).length ≤ nL)
    (h : ∀ AT : Nat → qLs → List qV → qSt → Prop, (∀ n cuts b ls st S, q_run mt l d rt (q_vc mt l d rt post code cuts AT n) post (q_nth code b) ls st S → AT b ls st S) → AT 0 (q_pad nL (q_ent as)) [] S) : q_Met mt l d k rt as S post := by
  intro G q hq
  obtain ⟨q', hq', hown, hpl, hnL, hck, hrt, hK, hB, h0⟩ := hok
  cases hq.symm.trans hq'
  refine Met.ofW (cc := q.2.1) (maxL := q.2.2.1) (ret := q.2.2.2) hpl rfl ?_
  intro p e s m args below meth c s₁ Bd hml hv
  obtain ⟨rfl, hW, hH, hos, hE⟩ := hv
  have hts := atoms_spec (ws := q_ws q) Bd.pre
  have hown' : s.vm.findClass own = some m.cls := hown ▸ findClass_of_methodNamed Bd.named
  have Z : q_Sx mt p l e (headSpec (q_ws q) (q_rm d)).room s m (as.map (q_cv G)).toArray below meth c (MQ below (q_Qc G rt post) (as.map (q_cv G)).toArray s 0 0 (q_A G)) G q.2.1 nL own d K q.2.2.2 rt post 0 0 :=
    ⟨⟨Bd.exec, Bd.bytes, hml.trans hnL, hown', fun w hw => hts w (List.mem_cons_of_mem _ hw), hW, ⟨rfl, rfl⟩, hfo, hE⟩, hK, Bd.returns, Bd.notSynchronized, fun _ _ _ h => h⟩
  have hblk : ∀ b ls st S, q_run mt l d rt (fun b ls st S => q_At p l e (headSpec (q_ws q) (q_rm d)).room s m (as.map (q_cv G)).toArray below meth c (MQ below (q_Qc G rt post) (as.map (q_cv G)).toArray s 0 0 (q_A G)) G nL (q_bp B b) ls st S) post (q_nth code b) ls st S →
      q_At p l e (headSpec (q_ws q) (q_rm d)).room s m (as.map (q_cv G)).toArray below meth c (MQ below (q_Qc G rt post) (as.map (q_cv G)).toArray s 0 0 (q_A G)) G nL (q_bp B b) ls st S := by
    intro b ls st S hr
    refine q_block Z hrt ?_ hr
    rw [q_nth_getD]
    by_cases hb : b < code.length
    · have := List.all_eq_true.mp hck b (List.mem_range.mpr hb)
      rw [hnL] at this
      exact this
    · rw [List.getD_eq_getElem?_getD, List.getElem?_eq_none (by omega)]
      rfl
  have hvc : ∀ n cuts b ls st S, q_vc mt l d rt post code cuts (fun b ls st S => q_At p l e (headSpec (q_ws q) (q_rm d)).room s m (as.map (q_cv G)).toArray below meth c (MQ below (q_Qc G rt post) (as.map (q_cv G)).toArray s 0 0 (q_A G)) G nL (q_bp B b) ls st S) n b ls st S →
      q_At p l e (headSpec (q_ws q) (q_rm d)).room s m (as.map (q_cv G)).toArray below meth c (MQ below (q_Qc G rt post) (as.map (q_cv G)).toArray s 0 0 (q_A G)) G nL (q_bp B b) ls st S := by
    intro n cuts
    induction n with
    | zero => intro b ls st S hr; exact hr
    | succ n ih =>
      intro b ls st S hr
      rw [q_vc] at hr
      cases hcut : q_cut cuts b with
      | some cm =>
        rw [hcut] at hr
        exact q_At_sub (fun j v hj => q_msk_get hj) hr
      | none =>
        rw [hcut] at hr
        exact hblk b ls st S (q_run_mono (fun b ls st S hr => ih b ls st S hr) hr)
  have key := h _ (fun n cuts b ls st S hr => hblk b ls st S (q_run_mono (fun b ls st S hr => hvc n cuts b ls st S hr) hr))
  rw [hB] at key
  have hl := lv_entry (as.map (q_cv G)) (n := q.2.2.1) (by rw [q_ent_len, hnL]; exact hsz)
  rw [lg_entry_eq]
  refine key s.heap [] _ hH va_S.rf ⟨?_, hl.2.1, fun x hx => hl.2.2 x ?_⟩ (fun v hv => ?_) (fun v hv => by cases hv)
  · rw [hl.1, hnL]
  · obtain ⟨j, v, hj, rfl⟩ := q_enc_mem.mp hx
    exact q_ent_in (q_enc_mem.mpr ⟨j, v, q_pad_get hj, rfl⟩)
  · obtain ⟨j, hj⟩ := q_get_iff.mp hv
    exact q_ent_ok hos v (q_get_mem (q_pad_get hj))
def q_isc (cuts : List (Nat × List Bool)) (b : Nat) : Bool := match cuts with
  | [] => false
  | (c, _) :: r => if b = c then true else q_isc r b
def q_mk (cuts : List (Nat × List Bool)) (b : Nat) : List Bool := match cuts with
  | [] => []
  | (c, m) :: r => if b = c then m else q_mk r b
theorem q_cut_no : ∀ {cuts : List (Nat × List Bool)} {b : Nat}, q_isc cuts b = false → q_cut cuts b = none
  | [], b, h => rfl
  | (c, m) :: r, b, h => by
    unfold q_isc at h
    unfold q_cut
    by_cases e : b = c
    · rw [if_pos e] at h; cases h
    · rw [if_neg e] at h ⊢
      exact q_cut_no h
theorem q_cut_yes : ∀ {cuts : List (Nat × List Bool)} {b : Nat}, q_isc cuts b = true → q_cut cuts b = some (q_mk cuts b)
  | [], b, h => by cases h
  | (c, m) :: r, b, h => by
    unfold q_isc at h
    unfold q_cut q_mk
    by_cases e : b = c
    · rw [if_pos e, if_pos e]
    · rw [if_neg e] at h ⊢
      rw [if_neg e]
      exact q_cut_yes h
theorem q_vu1 (mt : Nat → Option qM) (l : Launch) (d rt : Nat) (RET : Option qV → qSt → Prop) (code : List (List qO)) (cuts : List (Nat × List Bool)) (AT : Nat → qLs → List qV → qSt → Prop) (n b : Nat) (ls : qLs) (st : List qV) (S : qSt) (h : q_isc cuts b = false) :
    q_vc mt l d rt RET code cuts AT (n + 1) b ls st S = q_run mt l d rt (q_vc mt l d rt RET code cuts AT n) RET (q_nth code b) ls st S := by
  rw [q_vc, q_cut_no h]
theorem q_vu2 (mt : Nat → Option qM) (l : Launch) (d rt : Nat) (RET : Option qV → qSt → Prop) (code : List (List qO)) (cuts : List (Nat × List Bool)) (AT : Nat → qLs → List qV → qSt → Prop) (n b : Nat) (ls : qLs) (st : List qV) (S : qSt) (h : q_isc cuts b = true) :
    q_vc mt l d rt RET code cuts AT (n + 1) b ls st S = AT b (q_msk (q_mk cuts b) ls) st S := by
  rw [q_vc, q_cut_yes h]
end
