-- ===== PART A: goes FIRST, ahead of the names: the tables' words, and 'selects' of the private methods out of them =====
/-- a private method of a class that the tables say can be made, by its rows of tables_1 -/
def lw_okq (q : MethodName × Nat) : Prop := (q.1.cls ≠ "java/lang/invoke/MethodHandle" ∧ q.1.cls ≠ "java/lang/invoke/VarHandle") ∧ Cond.instantiable q.1.cls q.2 ∈ tables_1 ∧ Cond.privateMethod q.1 ∈ tables_1 ∧ Cond.instanceMethod q.1 ∈ tables_1
theorem lw_p0 : lw_okq (⟨"ThreeToSend", "forgetMatch", "()V"⟩, 9) := ⟨⟨by decide +kernel, by decide +kernel⟩, List.mem_of_getElem? (i := 21) (by decide +kernel), List.mem_of_getElem? (i := 352) (by decide +kernel), List.mem_of_getElem? (i := 353) (by decide +kernel)⟩
theorem lw_p1 : lw_okq (⟨"ThreeToSend", "readText", "(IILjava/lang/String;)I"⟩, 9) := ⟨⟨by decide +kernel, by decide +kernel⟩, List.mem_of_getElem? (i := 21) (by decide +kernel), List.mem_of_getElem? (i := 415) (by decide +kernel), List.mem_of_getElem? (i := 416) (by decide +kernel)⟩
theorem lw_p2 : lw_okq (⟨"ThreeToSend$Reader", "move", "()V"⟩, 8) := ⟨⟨by decide +kernel, by decide +kernel⟩, List.mem_of_getElem? (i := 173) (by decide +kernel), List.mem_of_getElem? (i := 427) (by decide +kernel), List.mem_of_getElem? (i := 428) (by decide +kernel)⟩
theorem lw_p3 : lw_okq (⟨"ThreeToSend$Reader", "clause", "()V"⟩, 8) := ⟨⟨by decide +kernel, by decide +kernel⟩, List.mem_of_getElem? (i := 173) (by decide +kernel), List.mem_of_getElem? (i := 431) (by decide +kernel), List.mem_of_getElem? (i := 432) (by decide +kernel)⟩
theorem lw_p4 : lw_okq (⟨"ThreeToSend$Reader", "isOneOf", "(Ljava/lang/String;)Z"⟩, 8) := ⟨⟨by decide +kernel, by decide +kernel⟩, List.mem_of_getElem? (i := 173) (by decide +kernel), List.mem_of_getElem? (i := 435) (by decide +kernel), List.mem_of_getElem? (i := 436) (by decide +kernel)⟩
theorem lw_p5 : lw_okq (⟨"ThreeToSend$Reader", "fail", "(I)V"⟩, 8) := ⟨⟨by decide +kernel, by decide +kernel⟩, List.mem_of_getElem? (i := 173) (by decide +kernel), List.mem_of_getElem? (i := 525) (by decide +kernel), List.mem_of_getElem? (i := 526) (by decide +kernel)⟩
theorem lw_p6 : lw_okq (⟨"ThreeToSend$Reader", "sum", "()V"⟩, 8) := ⟨⟨by decide +kernel, by decide +kernel⟩, List.mem_of_getElem? (i := 173) (by decide +kernel), List.mem_of_getElem? (i := 534) (by decide +kernel), List.mem_of_getElem? (i := 535) (by decide +kernel)⟩
theorem lw_p7 : lw_okq (⟨"ThreeToSend$Reader", "term", "()V"⟩, 8) := ⟨⟨by decide +kernel, by decide +kernel⟩, List.mem_of_getElem? (i := 173) (by decide +kernel), List.mem_of_getElem? (i := 538) (by decide +kernel), List.mem_of_getElem? (i := 539) (by decide +kernel)⟩
theorem lw_p8 : lw_okq (⟨"ThreeToSend$Reader", "factor", "()V"⟩, 8) := ⟨⟨by decide +kernel, by decide +kernel⟩, List.mem_of_getElem? (i := 173) (by decide +kernel), List.mem_of_getElem? (i := 542) (by decide +kernel), List.mem_of_getElem? (i := 543) (by decide +kernel)⟩
theorem lw_p9 : lw_okq (⟨"ThreeToSend$Reader", "enter", "()V"⟩, 8) := ⟨⟨by decide +kernel, by decide +kernel⟩, List.mem_of_getElem? (i := 173) (by decide +kernel), List.mem_of_getElem? (i := 546) (by decide +kernel), List.mem_of_getElem? (i := 547) (by decide +kernel)⟩
theorem lw_p10 : lw_okq (⟨"ThreeToSend$Reader", "expect", "(I)V"⟩, 8) := ⟨⟨by decide +kernel, by decide +kernel⟩, List.mem_of_getElem? (i := 173) (by decide +kernel), List.mem_of_getElem? (i := 550) (by decide +kernel), List.mem_of_getElem? (i := 551) (by decide +kernel)⟩
theorem lw_p11 : lw_okq (⟨"ThreeToSend$Reader", "number", "()I"⟩, 8) := ⟨⟨by decide +kernel, by decide +kernel⟩, List.mem_of_getElem? (i := 173) (by decide +kernel), List.mem_of_getElem? (i := 555) (by decide +kernel), List.mem_of_getElem? (i := 556) (by decide +kernel)⟩
theorem lw_p12 : lw_okq (⟨"ThreeToSend$Reader", "inRound", "()V"⟩, 8) := ⟨⟨by decide +kernel, by decide +kernel⟩, List.mem_of_getElem? (i := 173) (by decide +kernel), List.mem_of_getElem? (i := 570) (by decide +kernel), List.mem_of_getElem? (i := 571) (by decide +kernel)⟩
theorem lw_p13 : lw_okq (⟨"ThreeToSend$Reader", "parts", "()V"⟩, 8) := ⟨⟨by decide +kernel, by decide +kernel⟩, List.mem_of_getElem? (i := 173) (by decide +kernel), List.mem_of_getElem? (i := 574) (by decide +kernel), List.mem_of_getElem? (i := 575) (by decide +kernel)⟩
theorem lw_p14 : lw_okq (⟨"ThreeToSend$Reader", "part", "()V"⟩, 8) := ⟨⟨by decide +kernel, by decide +kernel⟩, List.mem_of_getElem? (i := 173) (by decide +kernel), List.mem_of_getElem? (i := 578) (by decide +kernel), List.mem_of_getElem? (i := 579) (by decide +kernel)⟩
theorem lw_p15 : lw_okq (⟨"ThreeToSend$Reader", "piece", "()V"⟩, 8) := ⟨⟨by decide +kernel, by decide +kernel⟩, List.mem_of_getElem? (i := 173) (by decide +kernel), List.mem_of_getElem? (i := 582) (by decide +kernel), List.mem_of_getElem? (i := 583) (by decide +kernel)⟩
def lw_privs_1 : List (MethodName × Nat) := [(⟨"ThreeToSend", "forgetMatch", "()V"⟩, 9), (⟨"ThreeToSend", "readText", "(IILjava/lang/String;)I"⟩, 9), (⟨"ThreeToSend$Reader", "move", "()V"⟩, 8), (⟨"ThreeToSend$Reader", "clause", "()V"⟩, 8), (⟨"ThreeToSend$Reader", "isOneOf", "(Ljava/lang/String;)Z"⟩, 8), (⟨"ThreeToSend$Reader", "fail", "(I)V"⟩, 8), (⟨"ThreeToSend$Reader", "sum", "()V"⟩, 8), (⟨"ThreeToSend$Reader", "term", "()V"⟩, 8), (⟨"ThreeToSend$Reader", "factor", "()V"⟩, 8), (⟨"ThreeToSend$Reader", "enter", "()V"⟩, 8), (⟨"ThreeToSend$Reader", "expect", "(I)V"⟩, 8), (⟨"ThreeToSend$Reader", "number", "()I"⟩, 8), (⟨"ThreeToSend$Reader", "inRound", "()V"⟩, 8), (⟨"ThreeToSend$Reader", "parts", "()V"⟩, 8), (⟨"ThreeToSend$Reader", "part", "()V"⟩, 8), (⟨"ThreeToSend$Reader", "piece", "()V"⟩, 8)]
theorem lw_r1 : ∀ q ∈ lw_privs_1, lw_okq q := List.forall_mem_cons.mpr ⟨lw_p0, List.forall_mem_cons.mpr ⟨lw_p1, List.forall_mem_cons.mpr ⟨lw_p2, List.forall_mem_cons.mpr ⟨lw_p3, List.forall_mem_cons.mpr ⟨lw_p4, List.forall_mem_cons.mpr ⟨lw_p5, List.forall_mem_cons.mpr ⟨lw_p6, List.forall_mem_cons.mpr ⟨lw_p7, List.forall_mem_cons.mpr ⟨lw_p8, List.forall_mem_cons.mpr ⟨lw_p9, List.forall_mem_cons.mpr ⟨lw_p10, List.forall_mem_cons.mpr ⟨lw_p11, List.forall_mem_cons.mpr ⟨lw_p12, List.forall_mem_cons.mpr ⟨lw_p13, List.forall_mem_cons.mpr ⟨lw_p14, List.forall_mem_cons.mpr ⟨lw_p15, fun _ h => absurd h List.not_mem_nil⟩⟩⟩⟩⟩⟩⟩⟩⟩⟩⟩⟩⟩⟩⟩⟩
theorem lw_p16 : lw_okq (⟨"ThreeToSend$Odds", "textAt", "(I)LThreeToSend$Text;"⟩, 3) := ⟨⟨by decide +kernel, by decide +kernel⟩, List.mem_of_getElem? (i := 105) (by decide +kernel), List.mem_of_getElem? (i := 602) (by decide +kernel), List.mem_of_getElem? (i := 603) (by decide +kernel)⟩
theorem lw_p17 : lw_okq (⟨"ThreeToSend", "isState", "(III)Z"⟩, 9) := ⟨⟨by decide +kernel, by decide +kernel⟩, List.mem_of_getElem? (i := 21) (by decide +kernel), List.mem_of_getElem? (i := 626) (by decide +kernel), List.mem_of_getElem? (i := 627) (by decide +kernel)⟩
theorem lw_p18 : lw_okq (⟨"ThreeToSend", "isLegal", "(IIII)Z"⟩, 9) := ⟨⟨by decide +kernel, by decide +kernel⟩, List.mem_of_getElem? (i := 21) (by decide +kernel), List.mem_of_getElem? (i := 663) (by decide +kernel), List.mem_of_getElem? (i := 664) (by decide +kernel)⟩
theorem lw_p19 : lw_okq (⟨"ThreeToSend$Squad", "sendOn", "(II)I"⟩, 11) := ⟨⟨by decide +kernel, by decide +kernel⟩, List.mem_of_getElem? (i := 29) (by decide +kernel), List.mem_of_getElem? (i := 671) (by decide +kernel), List.mem_of_getElem? (i := 672) (by decide +kernel)⟩
theorem lw_p20 : lw_okq (⟨"ThreeToSend$Odds", "setMoment", "(II)V"⟩, 3) := ⟨⟨by decide +kernel, by decide +kernel⟩, List.mem_of_getElem? (i := 105) (by decide +kernel), List.mem_of_getElem? (i := 697) (by decide +kernel), List.mem_of_getElem? (i := 698) (by decide +kernel)⟩
theorem lw_p21 : lw_okq (⟨"ThreeToSend$Reckoner", "run", "(LThreeToSend$Text;II)I"⟩, 4) := ⟨⟨by decide +kernel, by decide +kernel⟩, List.mem_of_getElem? (i := 111) (by decide +kernel), List.mem_of_getElem? (i := 721) (by decide +kernel), List.mem_of_getElem? (i := 722) (by decide +kernel)⟩
theorem lw_p22 : lw_okq (⟨"ThreeToSend$Reckoner", "push", "(I)V"⟩, 4) := ⟨⟨by decide +kernel, by decide +kernel⟩, List.mem_of_getElem? (i := 111) (by decide +kernel), List.mem_of_getElem? (i := 726) (by decide +kernel), List.mem_of_getElem? (i := 727) (by decide +kernel)⟩
theorem lw_p23 : lw_okq (⟨"ThreeToSend$Reckoner", "pop", "()I"⟩, 4) := ⟨⟨by decide +kernel, by decide +kernel⟩, List.mem_of_getElem? (i := 111) (by decide +kernel), List.mem_of_getElem? (i := 730) (by decide +kernel), List.mem_of_getElem? (i := 731) (by decide +kernel)⟩
theorem lw_p24 : lw_okq (⟨"ThreeToSend$Reckoner", "both", "(III)I"⟩, 4) := ⟨⟨by decide +kernel, by decide +kernel⟩, List.mem_of_getElem? (i := 111) (by decide +kernel), List.mem_of_getElem? (i := 735) (by decide +kernel), List.mem_of_getElem? (i := 736) (by decide +kernel)⟩
theorem lw_p25 : lw_okq (⟨"ThreeToSend$Odds", "setPlaces", "(III)V"⟩, 3) := ⟨⟨by decide +kernel, by decide +kernel⟩, List.mem_of_getElem? (i := 105) (by decide +kernel), List.mem_of_getElem? (i := 751) (by decide +kernel), List.mem_of_getElem? (i := 752) (by decide +kernel)⟩
theorem lw_p26 : lw_okq (⟨"ThreeToSend", "isEnd", "(III)Z"⟩, 9) := ⟨⟨by decide +kernel, by decide +kernel⟩, List.mem_of_getElem? (i := 21) (by decide +kernel), List.mem_of_getElem? (i := 781) (by decide +kernel), List.mem_of_getElem? (i := 782) (by decide +kernel)⟩
theorem lw_p27 : lw_okq (⟨"ThreeToSend$Best", "tune", "(IIII)V"⟩, 10) := ⟨⟨by decide +kernel, by decide +kernel⟩, List.mem_of_getElem? (i := 209) (by decide +kernel), List.mem_of_getElem? (i := 793) (by decide +kernel), List.mem_of_getElem? (i := 794) (by decide +kernel)⟩
theorem lw_p28 : lw_okq (⟨"ThreeToSend$Best", "held", "(III)J"⟩, 10) := ⟨⟨by decide +kernel, by decide +kernel⟩, List.mem_of_getElem? (i := 209) (by decide +kernel), List.mem_of_getElem? (i := 804) (by decide +kernel), List.mem_of_getElem? (i := 805) (by decide +kernel)⟩
theorem lw_p29 : lw_okq (⟨"ThreeToSend$Best", "slotOf", "(III)I"⟩, 10) := ⟨⟨by decide +kernel, by decide +kernel⟩, List.mem_of_getElem? (i := 209) (by decide +kernel), List.mem_of_getElem? (i := 810) (by decide +kernel), List.mem_of_getElem? (i := 811) (by decide +kernel)⟩
theorem lw_p30 : lw_okq (⟨"ThreeToSend$Best", "search", "(III)J"⟩, 10) := ⟨⟨by decide +kernel, by decide +kernel⟩, List.mem_of_getElem? (i := 209) (by decide +kernel), List.mem_of_getElem? (i := 818) (by decide +kernel), List.mem_of_getElem? (i := 819) (by decide +kernel)⟩
theorem lw_p31 : lw_okq (⟨"ThreeToSend$Best", "sumOf", "(IIIII)J"⟩, 10) := ⟨⟨by decide +kernel, by decide +kernel⟩, List.mem_of_getElem? (i := 209) (by decide +kernel), List.mem_of_getElem? (i := 827) (by decide +kernel), List.mem_of_getElem? (i := 828) (by decide +kernel)⟩
def lw_privs_2 : List (MethodName × Nat) := [(⟨"ThreeToSend$Odds", "textAt", "(I)LThreeToSend$Text;"⟩, 3), (⟨"ThreeToSend", "isState", "(III)Z"⟩, 9), (⟨"ThreeToSend", "isLegal", "(IIII)Z"⟩, 9), (⟨"ThreeToSend$Squad", "sendOn", "(II)I"⟩, 11), (⟨"ThreeToSend$Odds", "setMoment", "(II)V"⟩, 3), (⟨"ThreeToSend$Reckoner", "run", "(LThreeToSend$Text;II)I"⟩, 4), (⟨"ThreeToSend$Reckoner", "push", "(I)V"⟩, 4), (⟨"ThreeToSend$Reckoner", "pop", "()I"⟩, 4), (⟨"ThreeToSend$Reckoner", "both", "(III)I"⟩, 4), (⟨"ThreeToSend$Odds", "setPlaces", "(III)V"⟩, 3), (⟨"ThreeToSend", "isEnd", "(III)Z"⟩, 9), (⟨"ThreeToSend$Best", "tune", "(IIII)V"⟩, 10), (⟨"ThreeToSend$Best", "held", "(III)J"⟩, 10), (⟨"ThreeToSend$Best", "slotOf", "(III)I"⟩, 10), (⟨"ThreeToSend$Best", "search", "(III)J"⟩, 10), (⟨"ThreeToSend$Best", "sumOf", "(IIIII)J"⟩, 10)]
theorem lw_r2 : ∀ q ∈ lw_privs_2, lw_okq q := List.forall_mem_cons.mpr ⟨lw_p16, List.forall_mem_cons.mpr ⟨lw_p17, List.forall_mem_cons.mpr ⟨lw_p18, List.forall_mem_cons.mpr ⟨lw_p19, List.forall_mem_cons.mpr ⟨lw_p20, List.forall_mem_cons.mpr ⟨lw_p21, List.forall_mem_cons.mpr ⟨lw_p22, List.forall_mem_cons.mpr ⟨lw_p23, List.forall_mem_cons.mpr ⟨lw_p24, List.forall_mem_cons.mpr ⟨lw_p25, List.forall_mem_cons.mpr ⟨lw_p26, List.forall_mem_cons.mpr ⟨lw_p27, List.forall_mem_cons.mpr ⟨lw_p28, List.forall_mem_cons.mpr ⟨lw_p29, List.forall_mem_cons.mpr ⟨lw_p30, List.forall_mem_cons.mpr ⟨lw_p31, fun _ h => absurd h List.not_mem_nil⟩⟩⟩⟩⟩⟩⟩⟩⟩⟩⟩⟩⟩⟩⟩⟩
theorem lw_p32 : lw_okq (⟨"ThreeToSend$Walk", "go", "(IIIIIJ)V"⟩, 4) := ⟨⟨by decide +kernel, by decide +kernel⟩, List.mem_of_getElem? (i := 259) (by decide +kernel), List.mem_of_getElem? (i := 867) (by decide +kernel), List.mem_of_getElem? (i := 868) (by decide +kernel)⟩
theorem lw_p33 : lw_okq (⟨"ThreeToSend", "gameLow", "(I)J"⟩, 9) := ⟨⟨by decide +kernel, by decide +kernel⟩, List.mem_of_getElem? (i := 21) (by decide +kernel), List.mem_of_getElem? (i := 924) (by decide +kernel), List.mem_of_getElem? (i := 925) (by decide +kernel)⟩
theorem lw_p34 : lw_okq (⟨"ThreeToSend", "isMet", "(II)Z"⟩, 9) := ⟨⟨by decide +kernel, by decide +kernel⟩, List.mem_of_getElem? (i := 21) (by decide +kernel), List.mem_of_getElem? (i := 928) (by decide +kernel), List.mem_of_getElem? (i := 929) (by decide +kernel)⟩
theorem lw_p35 : lw_okq (⟨"ThreeToSend", "gameHigh", "(I)J"⟩, 9) := ⟨⟨by decide +kernel, by decide +kernel⟩, List.mem_of_getElem? (i := 21) (by decide +kernel), List.mem_of_getElem? (i := 937) (by decide +kernel), List.mem_of_getElem? (i := 938) (by decide +kernel)⟩
theorem lw_p36 : lw_okq (⟨"ThreeToSend", "isTwo", "(IIII)Z"⟩, 9) := ⟨⟨by decide +kernel, by decide +kernel⟩, List.mem_of_getElem? (i := 21) (by decide +kernel), List.mem_of_getElem? (i := 948) (by decide +kernel), List.mem_of_getElem? (i := 949) (by decide +kernel)⟩
theorem lw_p37 : lw_okq (⟨"ThreeToSend", "wrongIn", "(I)J"⟩, 9) := ⟨⟨by decide +kernel, by decide +kernel⟩, List.mem_of_getElem? (i := 21) (by decide +kernel), List.mem_of_getElem? (i := 1011) (by decide +kernel), List.mem_of_getElem? (i := 1012) (by decide +kernel)⟩
theorem lw_p38 : lw_okq (⟨"ThreeToSend", "drawPeriod", "(III)V"⟩, 9) := ⟨⟨by decide +kernel, by decide +kernel⟩, List.mem_of_getElem? (i := 21) (by decide +kernel), List.mem_of_getElem? (i := 1033) (by decide +kernel), List.mem_of_getElem? (i := 1034) (by decide +kernel)⟩
theorem lw_p39 : lw_okq (⟨"ThreeToSend$Season", "begin", "()I"⟩, 3) := ⟨⟨by decide +kernel, by decide +kernel⟩, List.mem_of_getElem? (i := 304) (by decide +kernel), List.mem_of_getElem? (i := 1053) (by decide +kernel), List.mem_of_getElem? (i := 1054) (by decide +kernel)⟩
theorem lw_p40 : lw_okq (⟨"ThreeToSend$Season", "most", "(II)I"⟩, 3) := ⟨⟨by decide +kernel, by decide +kernel⟩, List.mem_of_getElem? (i := 304) (by decide +kernel), List.mem_of_getElem? (i := 1062) (by decide +kernel), List.mem_of_getElem? (i := 1063) (by decide +kernel)⟩
theorem lw_p41 : lw_okq (⟨"ThreeToSend$Season", "search", "(II)I"⟩, 3) := ⟨⟨by decide +kernel, by decide +kernel⟩, List.mem_of_getElem? (i := 304) (by decide +kernel), List.mem_of_getElem? (i := 1067) (by decide +kernel), List.mem_of_getElem? (i := 1068) (by decide +kernel)⟩
theorem lw_p42 : lw_okq (⟨"ThreeToSend$Season", "worthOf", "(III)I"⟩, 3) := ⟨⟨by decide +kernel, by decide +kernel⟩, List.mem_of_getElem? (i := 304) (by decide +kernel), List.mem_of_getElem? (i := 1074) (by decide +kernel), List.mem_of_getElem? (i := 1075) (by decide +kernel)⟩
theorem lw_p43 : lw_okq (⟨"ThreeToSend$Season", "leastRow", "(II)I"⟩, 3) := ⟨⟨by decide +kernel, by decide +kernel⟩, List.mem_of_getElem? (i := 304) (by decide +kernel), List.mem_of_getElem? (i := 1090) (by decide +kernel), List.mem_of_getElem? (i := 1091) (by decide +kernel)⟩
theorem lw_p44 : lw_okq (⟨"ThreeToSendModel", "types", "(I)V"⟩, 54) := ⟨⟨by decide +kernel, by decide +kernel⟩, List.mem_of_getElem? (i := 1117) (by decide +kernel), List.mem_of_getElem? (i := 1320) (by decide +kernel), List.mem_of_getElem? (i := 1321) (by decide +kernel)⟩
theorem lw_p45 : lw_okq (⟨"ThreeToSendModel", "reads", "(II)I"⟩, 54) := ⟨⟨by decide +kernel, by decide +kernel⟩, List.mem_of_getElem? (i := 1117) (by decide +kernel), List.mem_of_getElem? (i := 1328) (by decide +kernel), List.mem_of_getElem? (i := 1329) (by decide +kernel)⟩
theorem lw_p46 : lw_okq (⟨"ThreeToSendModel", "readsClause", "(I)Z"⟩, 54) := ⟨⟨by decide +kernel, by decide +kernel⟩, List.mem_of_getElem? (i := 1117) (by decide +kernel), List.mem_of_getElem? (i := 1332) (by decide +kernel), List.mem_of_getElem? (i := 1333) (by decide +kernel)⟩
theorem lw_p47 : lw_okq (⟨"ThreeToSendModel", "here", "()I"⟩, 54) := ⟨⟨by decide +kernel, by decide +kernel⟩, List.mem_of_getElem? (i := 1117) (by decide +kernel), List.mem_of_getElem? (i := 1336) (by decide +kernel), List.mem_of_getElem? (i := 1337) (by decide +kernel)⟩
def lw_privs_3 : List (MethodName × Nat) := [(⟨"ThreeToSend$Walk", "go", "(IIIIIJ)V"⟩, 4), (⟨"ThreeToSend", "gameLow", "(I)J"⟩, 9), (⟨"ThreeToSend", "isMet", "(II)Z"⟩, 9), (⟨"ThreeToSend", "gameHigh", "(I)J"⟩, 9), (⟨"ThreeToSend", "isTwo", "(IIII)Z"⟩, 9), (⟨"ThreeToSend", "wrongIn", "(I)J"⟩, 9), (⟨"ThreeToSend", "drawPeriod", "(III)V"⟩, 9), (⟨"ThreeToSend$Season", "begin", "()I"⟩, 3), (⟨"ThreeToSend$Season", "most", "(II)I"⟩, 3), (⟨"ThreeToSend$Season", "search", "(II)I"⟩, 3), (⟨"ThreeToSend$Season", "worthOf", "(III)I"⟩, 3), (⟨"ThreeToSend$Season", "leastRow", "(II)I"⟩, 3), (⟨"ThreeToSendModel", "types", "(I)V"⟩, 54), (⟨"ThreeToSendModel", "reads", "(II)I"⟩, 54), (⟨"ThreeToSendModel", "readsClause", "(I)Z"⟩, 54), (⟨"ThreeToSendModel", "here", "()I"⟩, 54)]
theorem lw_r3 : ∀ q ∈ lw_privs_3, lw_okq q := List.forall_mem_cons.mpr ⟨lw_p32, List.forall_mem_cons.mpr ⟨lw_p33, List.forall_mem_cons.mpr ⟨lw_p34, List.forall_mem_cons.mpr ⟨lw_p35, List.forall_mem_cons.mpr ⟨lw_p36, List.forall_mem_cons.mpr ⟨lw_p37, List.forall_mem_cons.mpr ⟨lw_p38, List.forall_mem_cons.mpr ⟨lw_p39, List.forall_mem_cons.mpr ⟨lw_p40, List.forall_mem_cons.mpr ⟨lw_p41, List.forall_mem_cons.mpr ⟨lw_p42, List.forall_mem_cons.mpr ⟨lw_p43, List.forall_mem_cons.mpr ⟨lw_p44, List.forall_mem_cons.mpr ⟨lw_p45, List.forall_mem_cons.mpr ⟨lw_p46, List.forall_mem_cons.mpr ⟨lw_p47, fun _ h => absurd h List.not_mem_nil⟩⟩⟩⟩⟩⟩⟩⟩⟩⟩⟩⟩⟩⟩⟩⟩
theorem lw_p48 : lw_okq (⟨"ThreeToSendModel", "wrongAt", "(II)Z"⟩, 54) := ⟨⟨by decide +kernel, by decide +kernel⟩, List.mem_of_getElem? (i := 1117) (by decide +kernel), List.mem_of_getElem? (i := 1343) (by decide +kernel), List.mem_of_getElem? (i := 1344) (by decide +kernel)⟩
theorem lw_p49 : lw_okq (⟨"ThreeToSendModel", "readsSum", "()Z"⟩, 54) := ⟨⟨by decide +kernel, by decide +kernel⟩, List.mem_of_getElem? (i := 1117) (by decide +kernel), List.mem_of_getElem? (i := 1347) (by decide +kernel), List.mem_of_getElem? (i := 1348) (by decide +kernel)⟩
theorem lw_p50 : lw_okq (⟨"ThreeToSendModel", "readsFactor", "()Z"⟩, 54) := ⟨⟨by decide +kernel, by decide +kernel⟩, List.mem_of_getElem? (i := 1117) (by decide +kernel), List.mem_of_getElem? (i := 1351) (by decide +kernel), List.mem_of_getElem? (i := 1352) (by decide +kernel)⟩
theorem lw_p51 : lw_okq (⟨"ThreeToSendModel", "opens", "(I)Z"⟩, 54) := ⟨⟨by decide +kernel, by decide +kernel⟩, List.mem_of_getElem? (i := 1117) (by decide +kernel), List.mem_of_getElem? (i := 1355) (by decide +kernel), List.mem_of_getElem? (i := 1356) (by decide +kernel)⟩
theorem lw_p52 : lw_okq (⟨"ThreeToSendModel", "isDigit", "()Z"⟩, 54) := ⟨⟨by decide +kernel, by decide +kernel⟩, List.mem_of_getElem? (i := 1117) (by decide +kernel), List.mem_of_getElem? (i := 1360) (by decide +kernel), List.mem_of_getElem? (i := 1361) (by decide +kernel)⟩
theorem lw_p53 : lw_okq (⟨"ThreeToSendModel", "readsNumber", "()Z"⟩, 54) := ⟨⟨by decide +kernel, by decide +kernel⟩, List.mem_of_getElem? (i := 1117) (by decide +kernel), List.mem_of_getElem? (i := 1364) (by decide +kernel), List.mem_of_getElem? (i := 1365) (by decide +kernel)⟩
theorem lw_p54 : lw_okq (⟨"ThreeToSendModel", "notes", "(II)V"⟩, 54) := ⟨⟨by decide +kernel, by decide +kernel⟩, List.mem_of_getElem? (i := 1117) (by decide +kernel), List.mem_of_getElem? (i := 1368) (by decide +kernel), List.mem_of_getElem? (i := 1369) (by decide +kernel)⟩
theorem lw_p55 : lw_okq (⟨"ThreeToSendModel", "closesSums", "(Z)V"⟩, 54) := ⟨⟨by decide +kernel, by decide +kernel⟩, List.mem_of_getElem? (i := 1117) (by decide +kernel), List.mem_of_getElem? (i := 1378) (by decide +kernel), List.mem_of_getElem? (i := 1379) (by decide +kernel)⟩
theorem lw_p56 : lw_okq (⟨"ThreeToSendModel", "top", "()I"⟩, 54) := ⟨⟨by decide +kernel, by decide +kernel⟩, List.mem_of_getElem? (i := 1117) (by decide +kernel), List.mem_of_getElem? (i := 1382) (by decide +kernel), List.mem_of_getElem? (i := 1383) (by decide +kernel)⟩
theorem lw_p57 : lw_okq (⟨"ThreeToSendModel", "hasOpenSum", "(I)Z"⟩, 54) := ⟨⟨by decide +kernel, by decide +kernel⟩, List.mem_of_getElem? (i := 1117) (by decide +kernel), List.mem_of_getElem? (i := 1386) (by decide +kernel), List.mem_of_getElem? (i := 1387) (by decide +kernel)⟩
theorem lw_p58 : lw_okq (⟨"ThreeToSendModel", "readsCondition", "()Z"⟩, 54) := ⟨⟨by decide +kernel, by decide +kernel⟩, List.mem_of_getElem? (i := 1117) (by decide +kernel), List.mem_of_getElem? (i := 1390) (by decide +kernel), List.mem_of_getElem? (i := 1391) (by decide +kernel)⟩
theorem lw_p59 : lw_okq (⟨"ThreeToSendModel", "readsCompared", "()Z"⟩, 54) := ⟨⟨by decide +kernel, by decide +kernel⟩, List.mem_of_getElem? (i := 1117) (by decide +kernel), List.mem_of_getElem? (i := 1394) (by decide +kernel), List.mem_of_getElem? (i := 1395) (by decide +kernel)⟩
theorem lw_p60 : lw_okq (⟨"ThreeToSendModel", "endsPiece", "()V"⟩, 54) := ⟨⟨by decide +kernel, by decide +kernel⟩, List.mem_of_getElem? (i := 1117) (by decide +kernel), List.mem_of_getElem? (i := 1398) (by decide +kernel), List.mem_of_getElem? (i := 1399) (by decide +kernel)⟩
theorem lw_p61 : lw_okq (⟨"ThreeToSendModel", "lands", "(Z)V"⟩, 54) := ⟨⟨by decide +kernel, by decide +kernel⟩, List.mem_of_getElem? (i := 1117) (by decide +kernel), List.mem_of_getElem? (i := 1402) (by decide +kernel), List.mem_of_getElem? (i := 1403) (by decide +kernel)⟩
theorem lw_p62 : lw_okq (⟨"ThreeToSendModel", "jumps", "(I)V"⟩, 54) := ⟨⟨by decide +kernel, by decide +kernel⟩, List.mem_of_getElem? (i := 1117) (by decide +kernel), List.mem_of_getElem? (i := 1406) (by decide +kernel), List.mem_of_getElem? (i := 1407) (by decide +kernel)⟩
theorem lw_p63 : lw_okq (⟨"ThreeToSendModel", "takes", "(I)Z"⟩, 54) := ⟨⟨by decide +kernel, by decide +kernel⟩, List.mem_of_getElem? (i := 1117) (by decide +kernel), List.mem_of_getElem? (i := 1410) (by decide +kernel), List.mem_of_getElem? (i := 1411) (by decide +kernel)⟩
def lw_privs_4 : List (MethodName × Nat) := [(⟨"ThreeToSendModel", "wrongAt", "(II)Z"⟩, 54), (⟨"ThreeToSendModel", "readsSum", "()Z"⟩, 54), (⟨"ThreeToSendModel", "readsFactor", "()Z"⟩, 54), (⟨"ThreeToSendModel", "opens", "(I)Z"⟩, 54), (⟨"ThreeToSendModel", "isDigit", "()Z"⟩, 54), (⟨"ThreeToSendModel", "readsNumber", "()Z"⟩, 54), (⟨"ThreeToSendModel", "notes", "(II)V"⟩, 54), (⟨"ThreeToSendModel", "closesSums", "(Z)V"⟩, 54), (⟨"ThreeToSendModel", "top", "()I"⟩, 54), (⟨"ThreeToSendModel", "hasOpenSum", "(I)Z"⟩, 54), (⟨"ThreeToSendModel", "readsCondition", "()Z"⟩, 54), (⟨"ThreeToSendModel", "readsCompared", "()Z"⟩, 54), (⟨"ThreeToSendModel", "endsPiece", "()V"⟩, 54), (⟨"ThreeToSendModel", "lands", "(Z)V"⟩, 54), (⟨"ThreeToSendModel", "jumps", "(I)V"⟩, 54), (⟨"ThreeToSendModel", "takes", "(I)Z"⟩, 54)]
theorem lw_r4 : ∀ q ∈ lw_privs_4, lw_okq q := List.forall_mem_cons.mpr ⟨lw_p48, List.forall_mem_cons.mpr ⟨lw_p49, List.forall_mem_cons.mpr ⟨lw_p50, List.forall_mem_cons.mpr ⟨lw_p51, List.forall_mem_cons.mpr ⟨lw_p52, List.forall_mem_cons.mpr ⟨lw_p53, List.forall_mem_cons.mpr ⟨lw_p54, List.forall_mem_cons.mpr ⟨lw_p55, List.forall_mem_cons.mpr ⟨lw_p56, List.forall_mem_cons.mpr ⟨lw_p57, List.forall_mem_cons.mpr ⟨lw_p58, List.forall_mem_cons.mpr ⟨lw_p59, List.forall_mem_cons.mpr ⟨lw_p60, List.forall_mem_cons.mpr ⟨lw_p61, List.forall_mem_cons.mpr ⟨lw_p62, List.forall_mem_cons.mpr ⟨lw_p63, fun _ h => absurd h List.not_mem_nil⟩⟩⟩⟩⟩⟩⟩⟩⟩⟩⟩⟩⟩⟩⟩⟩
theorem lw_p64 : lw_okq (⟨"ThreeToSendModel", "taken", "(I)I"⟩, 54) := ⟨⟨by decide +kernel, by decide +kernel⟩, List.mem_of_getElem? (i := 1117) (by decide +kernel), List.mem_of_getElem? (i := 1426) (by decide +kernel), List.mem_of_getElem? (i := 1427) (by decide +kernel)⟩
theorem lw_p65 : lw_okq (⟨"ThreeToSendModel", "isAhead", "(I)Z"⟩, 54) := ⟨⟨by decide +kernel, by decide +kernel⟩, List.mem_of_getElem? (i := 1117) (by decide +kernel), List.mem_of_getElem? (i := 1436) (by decide +kernel), List.mem_of_getElem? (i := 1437) (by decide +kernel)⟩
theorem lw_p66 : lw_okq (⟨"ThreeToSendModel", "mayBe", "(II)Z"⟩, 54) := ⟨⟨by decide +kernel, by decide +kernel⟩, List.mem_of_getElem? (i := 1117) (by decide +kernel), List.mem_of_getElem? (i := 1440) (by decide +kernel), List.mem_of_getElem? (i := 1441) (by decide +kernel)⟩
theorem lw_p67 : lw_okq (⟨"ThreeToSendModel", "behind", "(II)I"⟩, 54) := ⟨⟨by decide +kernel, by decide +kernel⟩, List.mem_of_getElem? (i := 1117) (by decide +kernel), List.mem_of_getElem? (i := 1466) (by decide +kernel), List.mem_of_getElem? (i := 1467) (by decide +kernel)⟩
theorem lw_p68 : lw_okq (⟨"ThreeToSendModel", "changed", "(II)I"⟩, 54) := ⟨⟨by decide +kernel, by decide +kernel⟩, List.mem_of_getElem? (i := 1117) (by decide +kernel), List.mem_of_getElem? (i := 1470) (by decide +kernel), List.mem_of_getElem? (i := 1471) (by decide +kernel)⟩
theorem lw_p69 : lw_okq (⟨"ThreeToSendModel", "lots", "(IIIII)V"⟩, 54) := ⟨⟨by decide +kernel, by decide +kernel⟩, List.mem_of_getElem? (i := 1117) (by decide +kernel), List.mem_of_getElem? (i := 1496) (by decide +kernel), List.mem_of_getElem? (i := 1497) (by decide +kernel)⟩
theorem lw_p70 : lw_okq (⟨"ThreeToSendModel", "feels", "(IIIII)V"⟩, 54) := ⟨⟨by decide +kernel, by decide +kernel⟩, List.mem_of_getElem? (i := 1117) (by decide +kernel), List.mem_of_getElem? (i := 1500) (by decide +kernel), List.mem_of_getElem? (i := 1501) (by decide +kernel)⟩
theorem lw_p71 : lw_okq (⟨"ThreeToSendModel", "strength", "(III)I"⟩, 54) := ⟨⟨by decide +kernel, by decide +kernel⟩, List.mem_of_getElem? (i := 1117) (by decide +kernel), List.mem_of_getElem? (i := 1504) (by decide +kernel), List.mem_of_getElem? (i := 1505) (by decide +kernel)⟩
theorem lw_p72 : lw_okq (⟨"ThreeToSendModel", "byText", "(IIIII)I"⟩, 54) := ⟨⟨by decide +kernel, by decide +kernel⟩, List.mem_of_getElem? (i := 1117) (by decide +kernel), List.mem_of_getElem? (i := 1508) (by decide +kernel), List.mem_of_getElem? (i := 1509) (by decide +kernel)⟩
theorem lw_p73 : lw_okq (⟨"ThreeToSendModel", "comesTo", "(II)I"⟩, 54) := ⟨⟨by decide +kernel, by decide +kernel⟩, List.mem_of_getElem? (i := 1117) (by decide +kernel), List.mem_of_getElem? (i := 1512) (by decide +kernel), List.mem_of_getElem? (i := 1513) (by decide +kernel)⟩
theorem lw_p74 : lw_okq (⟨"ThreeToSendModel", "legsAt", "(III)I"⟩, 54) := ⟨⟨by decide +kernel, by decide +kernel⟩, List.mem_of_getElem? (i := 1117) (by decide +kernel), List.mem_of_getElem? (i := 1519) (by decide +kernel), List.mem_of_getElem? (i := 1520) (by decide +kernel)⟩
theorem lw_p75 : lw_okq (⟨"ThreeToSendModel", "lossBy", "(I)I"⟩, 54) := ⟨⟨by decide +kernel, by decide +kernel⟩, List.mem_of_getElem? (i := 1117) (by decide +kernel), List.mem_of_getElem? (i := 1523) (by decide +kernel), List.mem_of_getElem? (i := 1524) (by decide +kernel)⟩
theorem lw_p76 : lw_okq (⟨"ThreeToSendModel", "hurtAt", "(IIII)I"⟩, 54) := ⟨⟨by decide +kernel, by decide +kernel⟩, List.mem_of_getElem? (i := 1117) (by decide +kernel), List.mem_of_getElem? (i := 1527) (by decide +kernel), List.mem_of_getElem? (i := 1528) (by decide +kernel)⟩
theorem lw_p77 : lw_okq (⟨"ThreeToSendModel", "isState", "(IIII)Z"⟩, 54) := ⟨⟨by decide +kernel, by decide +kernel⟩, List.mem_of_getElem? (i := 1117) (by decide +kernel), List.mem_of_getElem? (i := 1535) (by decide +kernel), List.mem_of_getElem? (i := 1536) (by decide +kernel)⟩
theorem lw_p78 : lw_okq (⟨"ThreeToSendModel", "solves", "(IIIII)J"⟩, 54) := ⟨⟨by decide +kernel, by decide +kernel⟩, List.mem_of_getElem? (i := 1117) (by decide +kernel), List.mem_of_getElem? (i := 1540) (by decide +kernel), List.mem_of_getElem? (i := 1541) (by decide +kernel)⟩
theorem lw_p79 : lw_okq (⟨"ThreeToSendModel", "marksAll", "(IIII)V"⟩, 54) := ⟨⟨by decide +kernel, by decide +kernel⟩, List.mem_of_getElem? (i := 1117) (by decide +kernel), List.mem_of_getElem? (i := 1547) (by decide +kernel), List.mem_of_getElem? (i := 1548) (by decide +kernel)⟩
def lw_privs_5 : List (MethodName × Nat) := [(⟨"ThreeToSendModel", "taken", "(I)I"⟩, 54), (⟨"ThreeToSendModel", "isAhead", "(I)Z"⟩, 54), (⟨"ThreeToSendModel", "mayBe", "(II)Z"⟩, 54), (⟨"ThreeToSendModel", "behind", "(II)I"⟩, 54), (⟨"ThreeToSendModel", "changed", "(II)I"⟩, 54), (⟨"ThreeToSendModel", "lots", "(IIIII)V"⟩, 54), (⟨"ThreeToSendModel", "feels", "(IIIII)V"⟩, 54), (⟨"ThreeToSendModel", "strength", "(III)I"⟩, 54), (⟨"ThreeToSendModel", "byText", "(IIIII)I"⟩, 54), (⟨"ThreeToSendModel", "comesTo", "(II)I"⟩, 54), (⟨"ThreeToSendModel", "legsAt", "(III)I"⟩, 54), (⟨"ThreeToSendModel", "lossBy", "(I)I"⟩, 54), (⟨"ThreeToSendModel", "hurtAt", "(IIII)I"⟩, 54), (⟨"ThreeToSendModel", "isState", "(IIII)Z"⟩, 54), (⟨"ThreeToSendModel", "solves", "(IIIII)J"⟩, 54), (⟨"ThreeToSendModel", "marksAll", "(IIII)V"⟩, 54)]
theorem lw_r5 : ∀ q ∈ lw_privs_5, lw_okq q := List.forall_mem_cons.mpr ⟨lw_p64, List.forall_mem_cons.mpr ⟨lw_p65, List.forall_mem_cons.mpr ⟨lw_p66, List.forall_mem_cons.mpr ⟨lw_p67, List.forall_mem_cons.mpr ⟨lw_p68, List.forall_mem_cons.mpr ⟨lw_p69, List.forall_mem_cons.mpr ⟨lw_p70, List.forall_mem_cons.mpr ⟨lw_p71, List.forall_mem_cons.mpr ⟨lw_p72, List.forall_mem_cons.mpr ⟨lw_p73, List.forall_mem_cons.mpr ⟨lw_p74, List.forall_mem_cons.mpr ⟨lw_p75, List.forall_mem_cons.mpr ⟨lw_p76, List.forall_mem_cons.mpr ⟨lw_p77, List.forall_mem_cons.mpr ⟨lw_p78, List.forall_mem_cons.mpr ⟨lw_p79, fun _ h => absurd h List.not_mem_nil⟩⟩⟩⟩⟩⟩⟩⟩⟩⟩⟩⟩⟩⟩⟩⟩
theorem lw_p80 : lw_okq (⟨"ThreeToSendModel", "ruled", "(IIIII)I"⟩, 54) := ⟨⟨by decide +kernel, by decide +kernel⟩, List.mem_of_getElem? (i := 1117) (by decide +kernel), List.mem_of_getElem? (i := 1551) (by decide +kernel), List.mem_of_getElem? (i := 1552) (by decide +kernel)⟩
theorem lw_p81 : lw_okq (⟨"ThreeToSendModel", "marks", "(IIIII)V"⟩, 54) := ⟨⟨by decide +kernel, by decide +kernel⟩, List.mem_of_getElem? (i := 1117) (by decide +kernel), List.mem_of_getElem? (i := 1557) (by decide +kernel), List.mem_of_getElem? (i := 1558) (by decide +kernel)⟩
theorem lw_p82 : lw_okq (⟨"ThreeToSendModel", "codeAfter", "(II)I"⟩, 54) := ⟨⟨by decide +kernel, by decide +kernel⟩, List.mem_of_getElem? (i := 1117) (by decide +kernel), List.mem_of_getElem? (i := 1564) (by decide +kernel), List.mem_of_getElem? (i := 1565) (by decide +kernel)⟩
theorem lw_p83 : lw_okq (⟨"ThreeToSendModel", "ends", "(I)V"⟩, 54) := ⟨⟨by decide +kernel, by decide +kernel⟩, List.mem_of_getElem? (i := 1117) (by decide +kernel), List.mem_of_getElem? (i := 1568) (by decide +kernel), List.mem_of_getElem? (i := 1569) (by decide +kernel)⟩
theorem lw_p84 : lw_okq (⟨"ThreeToSendModel", "tells", "(IIII)V"⟩, 54) := ⟨⟨by decide +kernel, by decide +kernel⟩, List.mem_of_getElem? (i := 1117) (by decide +kernel), List.mem_of_getElem? (i := 1572) (by decide +kernel), List.mem_of_getElem? (i := 1573) (by decide +kernel)⟩
theorem lw_p85 : lw_okq (⟨"ThreeToSendModel", "actionWorth", "(IIIII)J"⟩, 54) := ⟨⟨by decide +kernel, by decide +kernel⟩, List.mem_of_getElem? (i := 1117) (by decide +kernel), List.mem_of_getElem? (i := 1576) (by decide +kernel), List.mem_of_getElem? (i := 1577) (by decide +kernel)⟩
theorem lw_p86 : lw_okq (⟨"ThreeToSendModel", "isRule", "(I)Z"⟩, 54) := ⟨⟨by decide +kernel, by decide +kernel⟩, List.mem_of_getElem? (i := 1117) (by decide +kernel), List.mem_of_getElem? (i := 1584) (by decide +kernel), List.mem_of_getElem? (i := 1585) (by decide +kernel)⟩
theorem lw_p87 : lw_okq (⟨"ThreeToSendModel", "firstWith", "(IIII)J"⟩, 54) := ⟨⟨by decide +kernel, by decide +kernel⟩, List.mem_of_getElem? (i := 1117) (by decide +kernel), List.mem_of_getElem? (i := 1600) (by decide +kernel), List.mem_of_getElem? (i := 1601) (by decide +kernel)⟩
theorem lw_p88 : lw_okq (⟨"ThreeToSendModel", "isSome", "()Z"⟩, 54) := ⟨⟨by decide +kernel, by decide +kernel⟩, List.mem_of_getElem? (i := 1117) (by decide +kernel), List.mem_of_getElem? (i := 1617) (by decide +kernel), List.mem_of_getElem? (i := 1618) (by decide +kernel)⟩
theorem lw_p89 : lw_okq (⟨"ThreeToSendModel", "isToldOther", "(I)Z"⟩, 54) := ⟨⟨by decide +kernel, by decide +kernel⟩, List.mem_of_getElem? (i := 1117) (by decide +kernel), List.mem_of_getElem? (i := 1621) (by decide +kernel), List.mem_of_getElem? (i := 1622) (by decide +kernel)⟩
theorem lw_p90 : lw_okq (⟨"ThreeToSendModel", "plays", "()V"⟩, 54) := ⟨⟨by decide +kernel, by decide +kernel⟩, List.mem_of_getElem? (i := 1117) (by decide +kernel), List.mem_of_getElem? (i := 1625) (by decide +kernel), List.mem_of_getElem? (i := 1626) (by decide +kernel)⟩
theorem lw_p91 : lw_okq (⟨"ThreeToSendModel", "leastOf", "(I)J"⟩, 54) := ⟨⟨by decide +kernel, by decide +kernel⟩, List.mem_of_getElem? (i := 1117) (by decide +kernel), List.mem_of_getElem? (i := 1629) (by decide +kernel), List.mem_of_getElem? (i := 1630) (by decide +kernel)⟩
theorem lw_p92 : lw_okq (⟨"ThreeToSendModel", "greatestOf", "(I)J"⟩, 54) := ⟨⟨by decide +kernel, by decide +kernel⟩, List.mem_of_getElem? (i := 1117) (by decide +kernel), List.mem_of_getElem? (i := 1633) (by decide +kernel), List.mem_of_getElem? (i := 1634) (by decide +kernel)⟩
theorem lw_p93 : lw_okq (⟨"ThreeToSendModel", "begins", "()V"⟩, 54) := ⟨⟨by decide +kernel, by decide +kernel⟩, List.mem_of_getElem? (i := 1117) (by decide +kernel), List.mem_of_getElem? (i := 1656) (by decide +kernel), List.mem_of_getElem? (i := 1657) (by decide +kernel)⟩
theorem lw_p94 : lw_okq (⟨"ThreeToSendModel", "logs", "(II)V"⟩, 54) := ⟨⟨by decide +kernel, by decide +kernel⟩, List.mem_of_getElem? (i := 1117) (by decide +kernel), List.mem_of_getElem? (i := 1660) (by decide +kernel), List.mem_of_getElem? (i := 1661) (by decide +kernel)⟩
theorem lw_p95 : lw_okq (⟨"ThreeToSendModel", "wrongIn", "(II)J"⟩, 54) := ⟨⟨by decide +kernel, by decide +kernel⟩, List.mem_of_getElem? (i := 1117) (by decide +kernel), List.mem_of_getElem? (i := 1676) (by decide +kernel), List.mem_of_getElem? (i := 1677) (by decide +kernel)⟩
def lw_privs_6 : List (MethodName × Nat) := [(⟨"ThreeToSendModel", "ruled", "(IIIII)I"⟩, 54), (⟨"ThreeToSendModel", "marks", "(IIIII)V"⟩, 54), (⟨"ThreeToSendModel", "codeAfter", "(II)I"⟩, 54), (⟨"ThreeToSendModel", "ends", "(I)V"⟩, 54), (⟨"ThreeToSendModel", "tells", "(IIII)V"⟩, 54), (⟨"ThreeToSendModel", "actionWorth", "(IIIII)J"⟩, 54), (⟨"ThreeToSendModel", "isRule", "(I)Z"⟩, 54), (⟨"ThreeToSendModel", "firstWith", "(IIII)J"⟩, 54), (⟨"ThreeToSendModel", "isSome", "()Z"⟩, 54), (⟨"ThreeToSendModel", "isToldOther", "(I)Z"⟩, 54), (⟨"ThreeToSendModel", "plays", "()V"⟩, 54), (⟨"ThreeToSendModel", "leastOf", "(I)J"⟩, 54), (⟨"ThreeToSendModel", "greatestOf", "(I)J"⟩, 54), (⟨"ThreeToSendModel", "begins", "()V"⟩, 54), (⟨"ThreeToSendModel", "logs", "(II)V"⟩, 54), (⟨"ThreeToSendModel", "wrongIn", "(II)J"⟩, 54)]
theorem lw_r6 : ∀ q ∈ lw_privs_6, lw_okq q := List.forall_mem_cons.mpr ⟨lw_p80, List.forall_mem_cons.mpr ⟨lw_p81, List.forall_mem_cons.mpr ⟨lw_p82, List.forall_mem_cons.mpr ⟨lw_p83, List.forall_mem_cons.mpr ⟨lw_p84, List.forall_mem_cons.mpr ⟨lw_p85, List.forall_mem_cons.mpr ⟨lw_p86, List.forall_mem_cons.mpr ⟨lw_p87, List.forall_mem_cons.mpr ⟨lw_p88, List.forall_mem_cons.mpr ⟨lw_p89, List.forall_mem_cons.mpr ⟨lw_p90, List.forall_mem_cons.mpr ⟨lw_p91, List.forall_mem_cons.mpr ⟨lw_p92, List.forall_mem_cons.mpr ⟨lw_p93, List.forall_mem_cons.mpr ⟨lw_p94, List.forall_mem_cons.mpr ⟨lw_p95, fun _ h => absurd h List.not_mem_nil⟩⟩⟩⟩⟩⟩⟩⟩⟩⟩⟩⟩⟩⟩⟩⟩
theorem lw_p96 : lw_okq (⟨"ThreeToSendModel", "seasons", "(I)V"⟩, 54) := ⟨⟨by decide +kernel, by decide +kernel⟩, List.mem_of_getElem? (i := 1117) (by decide +kernel), List.mem_of_getElem? (i := 1694) (by decide +kernel), List.mem_of_getElem? (i := 1695) (by decide +kernel)⟩
theorem lw_p97 : lw_okq (⟨"ThreeToSendModel", "seasonBy", "(IIII)I"⟩, 54) := ⟨⟨by decide +kernel, by decide +kernel⟩, List.mem_of_getElem? (i := 1117) (by decide +kernel), List.mem_of_getElem? (i := 1698) (by decide +kernel), List.mem_of_getElem? (i := 1699) (by decide +kernel)⟩
theorem lw_p98 : lw_okq (⟨"ThreeToSendModel", "weekWorth", "(III)I"⟩, 54) := ⟨⟨by decide +kernel, by decide +kernel⟩, List.mem_of_getElem? (i := 1117) (by decide +kernel), List.mem_of_getElem? (i := 1702) (by decide +kernel), List.mem_of_getElem? (i := 1703) (by decide +kernel)⟩
theorem lw_p99 : lw_okq (⟨"ThreeToSendModel", "tapeNumber", "(I)I"⟩, 54) := ⟨⟨by decide +kernel, by decide +kernel⟩, List.mem_of_getElem? (i := 1117) (by decide +kernel), List.mem_of_getElem? (i := 1716) (by decide +kernel), List.mem_of_getElem? (i := 1717) (by decide +kernel)⟩
def lw_privs_7 : List (MethodName × Nat) := [(⟨"ThreeToSendModel", "seasons", "(I)V"⟩, 54), (⟨"ThreeToSendModel", "seasonBy", "(IIII)I"⟩, 54), (⟨"ThreeToSendModel", "weekWorth", "(III)I"⟩, 54), (⟨"ThreeToSendModel", "tapeNumber", "(I)I"⟩, 54)]
theorem lw_r7 : ∀ q ∈ lw_privs_7, lw_okq q := List.forall_mem_cons.mpr ⟨lw_p96, List.forall_mem_cons.mpr ⟨lw_p97, List.forall_mem_cons.mpr ⟨lw_p98, List.forall_mem_cons.mpr ⟨lw_p99, fun _ h => absurd h List.not_mem_nil⟩⟩⟩⟩
def lw_privs : List (MethodName × Nat) := lw_privs_1 ++ (lw_privs_2 ++ (lw_privs_3 ++ (lw_privs_4 ++ (lw_privs_5 ++ (lw_privs_6 ++ (lw_privs_7))))))
def lw_tbl : List Cond := k2_sels lw_privs ++ tables_1
theorem lw_privs_ok : ∀ q ∈ lw_privs, lw_okq q := by
  show ∀ q ∈ lw_privs_1 ++ (lw_privs_2 ++ (lw_privs_3 ++ (lw_privs_4 ++ (lw_privs_5 ++ (lw_privs_6 ++ (lw_privs_7)))))), lw_okq q
  exact List.forall_mem_append.mpr ⟨lw_r1, List.forall_mem_append.mpr ⟨lw_r2, List.forall_mem_append.mpr ⟨lw_r3, List.forall_mem_append.mpr ⟨lw_r4, List.forall_mem_append.mpr ⟨lw_r5, List.forall_mem_append.mpr ⟨lw_r6, lw_r7⟩⟩⟩⟩⟩⟩
/-! ===== BEGIN words of one list among another's, by their places ===== -/
theorem goodIn_r {big : List Cond} (ws : List Cond) (ps : List Nat) (hp : ws = ps.filterMap (fun i => big[i]?)) (h : ws.all goodWord = true) : GoodIn big ws := by
  intro w hw
  have h1 := List.all_eq_true.mp h w hw
  rw [hp] at hw
  obtain ⟨i, -, hi⟩ := List.mem_filterMap.mp hw
  have hm : w ∈ big := by first | exact List.mem_of_getElem? hi | exact List.getElem?_mem hi
  exact ⟨hm, good_of_word h1⟩
theorem goodIn_app {big a b : List Cond} (ha : GoodIn big a) (hb : GoodIn big b) : GoodIn big (a ++ b) := fun w h => (List.mem_append.mp h).elim (ha w) (hb w)
theorem goodIn_ca {big a b : List Cond} {c : Cond} (ha : GoodIn big (c :: a)) (hb : GoodIn big b) : GoodIn big (c :: (a ++ b)) := fun w h => (List.mem_cons.mp h).elim (fun e => ha w (List.mem_cons.mpr (Or.inl e))) (fun h => (List.mem_append.mp h).elim (fun h => ha w (List.mem_cons.mpr (Or.inr h))) (hb w))
theorem goodIn_sub {big ws : List Cond} (hm : ∀ w ∈ ws, w ∈ big) (h : ws.all goodWord = true) : GoodIn big ws := fun w hw => ⟨hm w hw, good_of_word (List.all_eq_true.mp h w hw)⟩
/-! ===== END ===== -/

/-! ===== BEGIN printed: names, fields, word lists, decode rows ===== -/
def RX0 : String := "ThreeToSend$Best"
def TX0 : u_T := fun k => match k with
  | 0 => ("ThreeToSend$Best", "squad", "LThreeToSend$Squad;", true)
  | 1 => ("ThreeToSend$Best", "odds", "LThreeToSend$Odds;", true)
  | 2 => ("ThreeToSend$Best", "ranks", "[I", true)
  | 3 => ("ThreeToSend$Best", "memo", "[J", true)
  | 4 => ("ThreeToSend$Best", "firsts", "[J", true)
  | 5 => ("ThreeToSend$Best", "key", "I", false)
  | 6 => ("ThreeToSend$Best", "other", "I", false)
  | 7 => ("ThreeToSend$Best", "most", "I", false)
  | 8 => ("ThreeToSend$Best", "atOnce", "I", false)
  | _ => ("ThreeToSend$Best", "pace", "I", false)
def tyX0 : Nat → FieldType := fun k => match k with
  | 0 => .object "ThreeToSend$Squad"
  | 1 => .object "ThreeToSend$Odds"
  | 2 => .array .int
  | 3 => .array .long
  | 4 => .array .long
  | 5 => .int
  | 6 => .int
  | 7 => .int
  | 8 => .int
  | _ => .int
abbrev wsX00 : List Cond := u_ws RX0 TX0 10
theorem nmX0 : ∀ a, a < 10 → ∀ b, b < 10 → a ≠ b → (TX0 a).2.1 ≠ (TX0 b).2.1 := by decide +kernel
theorem tyX0_ok : ∀ k, k < 10 → parseFieldDescriptor (TX0 k).2.2.1 = some (tyX0 k) := by decide +kernel
abbrev cX0_init : ByteArray := prog_2_method_1_code
def yX0_init : MethodName := ⟨RX0, "<init>", "(LThreeToSend$Squad;LThreeToSend$Odds;)V"⟩
abbrev cX0_forget : ByteArray := prog_2_method_2_code
def yX0_forget : MethodName := ⟨RX0, "forget", "()V"⟩
abbrev cX0_against : ByteArray := prog_2_method_3_code
def yX0_against : MethodName := ⟨RX0, "against", "(I)V"⟩
abbrev cX0_keyOf : ByteArray := prog_2_method_4_code
def yX0_keyOf : MethodName := ⟨RX0, "keyOf", "(IIII)I"⟩
abbrev cX0_tune : ByteArray := prog_2_method_5_code
def yX0_tune : MethodName := ⟨RX0, "tune", "(IIII)V"⟩
abbrev cX0_first : ByteArray := prog_2_method_6_code
def yX0_first : MethodName := ⟨RX0, "first", "(IIII)J"⟩
abbrev cX0_valueOf : ByteArray := prog_2_method_7_code
def yX0_valueOf : MethodName := ⟨RX0, "valueOf", "(III)J"⟩
abbrev cX0_actionOf : ByteArray := prog_2_method_8_code
def yX0_actionOf : MethodName := ⟨RX0, "actionOf", "(III)I"⟩
abbrev cX0_valueBy : ByteArray := prog_2_method_9_code
def yX0_valueBy : MethodName := ⟨RX0, "valueBy", "(IIII)J"⟩
abbrev cX0_slotOf : ByteArray := prog_2_method_10_code
def yX0_slotOf : MethodName := ⟨RX0, "slotOf", "(III)I"⟩
abbrev cX0_held : ByteArray := prog_2_method_11_code
def yX0_held : MethodName := ⟨RX0, "held", "(III)J"⟩
abbrev cX0_search : ByteArray := prog_2_method_12_code
def yX0_search : MethodName := ⟨RX0, "search", "(III)J"⟩
abbrev cX0_sumOf : ByteArray := prog_2_method_13_code
def yX0_sumOf : MethodName := ⟨RX0, "sumOf", "(IIIII)J"⟩
def RX1 : String := "ThreeToSend$Log"
def TX1 : u_T := fun k => match k with
  | 0 => ("ThreeToSend$Log", "length", "I", false)
  | 1 => ("ThreeToSend$Log", "squad", "LThreeToSend$Squad;", true)
  | 2 => ("ThreeToSend$Log", "codes", "[I", true)
  | 3 => ("ThreeToSend$Log", "scores", "[I", true)
  | 4 => ("ThreeToSend$Log", "actions", "[I", true)
  | _ => ("ThreeToSend$Log", "events", "[I", true)
def tyX1 : Nat → FieldType := fun k => match k with
  | 0 => .int
  | 1 => .object "ThreeToSend$Squad"
  | 2 => .array .int
  | 3 => .array .int
  | 4 => .array .int
  | _ => .array .int
abbrev wsX10 : List Cond := u_ws RX1 TX1 6
theorem nmX1 : ∀ a, a < 6 → ∀ b, b < 6 → a ≠ b → (TX1 a).2.1 ≠ (TX1 b).2.1 := by decide +kernel
theorem tyX1_ok : ∀ k, k < 6 → parseFieldDescriptor (TX1 k).2.2.1 = some (tyX1 k) := by decide +kernel
abbrev cX1_init : ByteArray := prog_3_method_1_code
def yX1_init : MethodName := ⟨RX1, "<init>", "(LThreeToSend$Squad;)V"⟩
abbrev cX1_tell : ByteArray := prog_3_method_2_code
def yX1_tell : MethodName := ⟨RX1, "tell", "(II)Z"⟩
abbrev cX1_codeBehind : ByteArray := prog_3_method_3_code
def yX1_codeBehind : MethodName := ⟨RX1, "codeBehind", "(I)I"⟩
abbrev cX1_scoreBehind : ByteArray := prog_3_method_4_code
def yX1_scoreBehind : MethodName := ⟨RX1, "scoreBehind", "(I)I"⟩
abbrev cX1_actionIn : ByteArray := prog_3_method_5_code
def yX1_actionIn : MethodName := ⟨RX1, "actionIn", "(I)I"⟩
abbrev cX1_eventIn : ByteArray := prog_3_method_6_code
def yX1_eventIn : MethodName := ⟨RX1, "eventIn", "(I)I"⟩
abbrev cX1_isBehind : ByteArray := prog_3_method_7_code
def yX1_isBehind : MethodName := ⟨RX1, "isBehind", "(III)Z"⟩
def RX2 : String := "ThreeToSend$Odds"
def TX2 : u_T := fun k => match k with
  | 0 => ("ThreeToSend$Odds", "squad", "LThreeToSend$Squad;", true)
  | 1 => ("ThreeToSend$Odds", "reckoner", "LThreeToSend$Reckoner;", true)
  | _ => ("ThreeToSend$Odds", "texts", "[LThreeToSend$Text;", true)
def tyX2 : Nat → FieldType := fun k => match k with
  | 0 => .object "ThreeToSend$Squad"
  | 1 => .object "ThreeToSend$Reckoner"
  | _ => .array (.object "ThreeToSend$Text")
abbrev wsX20 : List Cond := u_ws RX2 TX2 3
theorem nmX2 : ∀ a, a < 3 → ∀ b, b < 3 → a ≠ b → (TX2 a).2.1 ≠ (TX2 b).2.1 := by decide +kernel
theorem tyX2_ok : ∀ k, k < 3 → parseFieldDescriptor (TX2 k).2.2.1 = some (tyX2 k) := by decide +kernel
abbrev cX2_init : ByteArray := prog_4_method_1_code
def yX2_init : MethodName := ⟨RX2, "<init>", "(LThreeToSend$Squad;)V"⟩
abbrev cX2_textAt : ByteArray := prog_4_method_2_code
def yX2_textAt : MethodName := ⟨RX2, "textAt", "(I)LThreeToSend$Text;"⟩
abbrev cX2_tell : ByteArray := prog_4_method_3_code
def yX2_tell : MethodName := ⟨RX2, "tell", "(ILThreeToSend$Text;)LThreeToSend$Text;"⟩
abbrev cX2_clausesOf : ByteArray := prog_4_method_4_code
def yX2_clausesOf : MethodName := ⟨RX2, "clausesOf", "(I)I"⟩
abbrev cX2_isTold : ByteArray := prog_4_method_5_code
def yX2_isTold : MethodName := ⟨RX2, "isTold", "(I)Z"⟩
abbrev cX2_setMoment : ByteArray := prog_4_method_6_code
def yX2_setMoment : MethodName := ⟨RX2, "setMoment", "(II)V"⟩
abbrev cX2_setPlaces : ByteArray := prog_4_method_7_code
def yX2_setPlaces : MethodName := ⟨RX2, "setPlaces", "(III)V"⟩
abbrev cX2_strongOf : ByteArray := prog_4_method_8_code
def yX2_strongOf : MethodName := ⟨RX2, "strongOf", "(III)I"⟩
abbrev cX2_ruleAction : ByteArray := prog_4_method_9_code
def yX2_ruleAction : MethodName := ⟨RX2, "ruleAction", "(IIIII)I"⟩
abbrev cX2_shares : ByteArray := prog_4_method_10_code
def yX2_shares : MethodName := ⟨RX2, "shares", "(IIIIIII)I"⟩
abbrev cX2_shareOf : ByteArray := prog_4_method_11_code
def yX2_shareOf : MethodName := ⟨RX2, "shareOf", "(II)I"⟩
abbrev cX2_within : ByteArray := prog_4_method_12_code
def yX2_within : MethodName := ⟨RX2, "within", "(II)I"⟩
def RX3 : String := "ThreeToSend$Reader"
def TX3 : u_T := fun k => match k with
  | 0 => ("ThreeToSend$Reader", "text", "LThreeToSend$Text;", false)
  | 1 => ("ThreeToSend$Reader", "bytes", "[I", true)
  | 2 => ("ThreeToSend$Reader", "heads", "Ljava/lang/String;", false)
  | 3 => ("ThreeToSend$Reader", "end", "I", false)
  | 4 => ("ThreeToSend$Reader", "at", "I", false)
  | 5 => ("ThreeToSend$Reader", "sign", "I", false)
  | 6 => ("ThreeToSend$Reader", "open", "I", false)
  | _ => ("ThreeToSend$Reader", "fault", "I", false)
def tyX3 : Nat → FieldType := fun k => match k with
  | 0 => .object "ThreeToSend$Text"
  | 1 => .array .int
  | 2 => .object "java/lang/String"
  | 3 => .int
  | 4 => .int
  | 5 => .int
  | 6 => .int
  | _ => .int
abbrev wsX30 : List Cond := u_ws RX3 TX3 8
theorem nmX3 : ∀ a, a < 8 → ∀ b, b < 8 → a ≠ b → (TX3 a).2.1 ≠ (TX3 b).2.1 := by decide +kernel
theorem tyX3_ok : ∀ k, k < 8 → parseFieldDescriptor (TX3 k).2.2.1 = some (tyX3 k) := by decide +kernel
abbrev cX3_init : ByteArray := prog_5_method_1_code
def yX3_init : MethodName := ⟨RX3, "<init>", "([I)V"⟩
abbrev cX3_read : ByteArray := prog_5_method_2_code
def yX3_read : MethodName := ⟨RX3, "read", "(ILjava/lang/String;)I"⟩
abbrev cX3_move : ByteArray := prog_5_method_3_code
def yX3_move : MethodName := ⟨RX3, "move", "()V"⟩
abbrev cX3_fail : ByteArray := prog_5_method_4_code
def yX3_fail : MethodName := ⟨RX3, "fail", "(I)V"⟩
abbrev cX3_isOneOf : ByteArray := prog_5_method_5_code
def yX3_isOneOf : MethodName := ⟨RX3, "isOneOf", "(Ljava/lang/String;)Z"⟩
abbrev cX3_expect : ByteArray := prog_5_method_6_code
def yX3_expect : MethodName := ⟨RX3, "expect", "(I)V"⟩
abbrev cX3_enter : ByteArray := prog_5_method_7_code
def yX3_enter : MethodName := ⟨RX3, "enter", "()V"⟩
abbrev cX3_clause : ByteArray := prog_5_method_8_code
def yX3_clause : MethodName := ⟨RX3, "clause", "()V"⟩
abbrev cX3_inRound : ByteArray := prog_5_method_9_code
def yX3_inRound : MethodName := ⟨RX3, "inRound", "()V"⟩
abbrev cX3_parts : ByteArray := prog_5_method_10_code
def yX3_parts : MethodName := ⟨RX3, "parts", "()V"⟩
abbrev cX3_part : ByteArray := prog_5_method_11_code
def yX3_part : MethodName := ⟨RX3, "part", "()V"⟩
abbrev cX3_piece : ByteArray := prog_5_method_12_code
def yX3_piece : MethodName := ⟨RX3, "piece", "()V"⟩
abbrev cX3_sum : ByteArray := prog_5_method_13_code
def yX3_sum : MethodName := ⟨RX3, "sum", "()V"⟩
abbrev cX3_term : ByteArray := prog_5_method_14_code
def yX3_term : MethodName := ⟨RX3, "term", "()V"⟩
abbrev cX3_factor : ByteArray := prog_5_method_15_code
def yX3_factor : MethodName := ⟨RX3, "factor", "()V"⟩
abbrev cX3_number : ByteArray := prog_5_method_16_code
def yX3_number : MethodName := ⟨RX3, "number", "()I"⟩
def RX4 : String := "ThreeToSend$Reckoner"
def TX4 : u_T := fun k => match k with
  | 0 => ("ThreeToSend$Reckoner", "letters", "[I", true)
  | 1 => ("ThreeToSend$Reckoner", "stack", "[I", true)
  | 2 => ("ThreeToSend$Reckoner", "height", "I", false)
  | _ => ("ThreeToSend$Reckoner", "refused", "Z", false)
def tyX4 : Nat → FieldType := fun k => match k with
  | 0 => .array .int
  | 1 => .array .int
  | 2 => .int
  | _ => .boolean
abbrev wsX40 : List Cond := u_ws RX4 TX4 4
theorem nmX4 : ∀ a, a < 4 → ∀ b, b < 4 → a ≠ b → (TX4 a).2.1 ≠ (TX4 b).2.1 := by decide +kernel
theorem tyX4_ok : ∀ k, k < 4 → parseFieldDescriptor (TX4 k).2.2.1 = some (tyX4 k) := by decide +kernel
abbrev cX4_init : ByteArray := prog_6_method_1_code
def yX4_init : MethodName := ⟨RX4, "<init>", "()V"⟩
abbrev cX4_set : ByteArray := prog_6_method_2_code
def yX4_set : MethodName := ⟨RX4, "set", "(II)V"⟩
abbrev cX4_ask : ByteArray := prog_6_method_3_code
def yX4_ask : MethodName := ⟨RX4, "ask", "(LThreeToSend$Text;I)I"⟩
abbrev cX4_run : ByteArray := prog_6_method_4_code
def yX4_run : MethodName := ⟨RX4, "run", "(LThreeToSend$Text;II)I"⟩
abbrev cX4_push : ByteArray := prog_6_method_5_code
def yX4_push : MethodName := ⟨RX4, "push", "(I)V"⟩
abbrev cX4_pop : ByteArray := prog_6_method_6_code
def yX4_pop : MethodName := ⟨RX4, "pop", "()I"⟩
abbrev cX4_both : ByteArray := prog_6_method_7_code
def yX4_both : MethodName := ⟨RX4, "both", "(III)I"⟩
def RX5 : String := "ThreeToSend$Rows"
def TX5 : u_T := fun k => match k with
  | _ => ("", "", "", false)
def tyX5 : Nat → FieldType := fun k => match k with
  | _ => .int
abbrev wsX50 : List Cond := u_ws RX5 TX5 0
theorem nmX5 : ∀ a, a < 0 → ∀ b, b < 0 → a ≠ b → (TX5 a).2.1 ≠ (TX5 b).2.1 := by decide +kernel
theorem tyX5_ok : ∀ k, k < 0 → parseFieldDescriptor (TX5 k).2.2.1 = some (tyX5 k) := by decide +kernel
abbrev cX5_at : ByteArray := prog_7_method_2_code
def yX5_at : MethodName := ⟨RX5, "at", "([II)I"⟩
abbrev cX5_put : ByteArray := prog_7_method_3_code
def yX5_put : MethodName := ⟨RX5, "put", "([III)V"⟩
abbrev cX5_longAt : ByteArray := prog_7_method_4_code
def yX5_longAt : MethodName := ⟨RX5, "longAt", "([JI)J"⟩
abbrev cX5_putLong : ByteArray := prog_7_method_5_code
def yX5_putLong : MethodName := ⟨RX5, "putLong", "([JIJ)V"⟩
abbrev cX5_clear : ByteArray := prog_7_method_6_code
def yX5_clear : MethodName := ⟨RX5, "clear", "([J)V"⟩
def RX6 : String := "ThreeToSend$Season"
def TX6 : u_T := fun k => match k with
  | 0 => ("ThreeToSend$Season", "squad", "LThreeToSend$Squad;", true)
  | 1 => ("ThreeToSend$Season", "memo", "[J", true)
  | _ => ("ThreeToSend$Season", "stale", "Z", false)
def tyX6 : Nat → FieldType := fun k => match k with
  | 0 => .object "ThreeToSend$Squad"
  | 1 => .array .long
  | _ => .boolean
abbrev wsX60 : List Cond := u_ws RX6 TX6 3
theorem nmX6 : ∀ a, a < 3 → ∀ b, b < 3 → a ≠ b → (TX6 a).2.1 ≠ (TX6 b).2.1 := by decide +kernel
theorem tyX6_ok : ∀ k, k < 3 → parseFieldDescriptor (TX6 k).2.2.1 = some (tyX6 k) := by decide +kernel
abbrev cX6_init : ByteArray := prog_8_method_1_code
def yX6_init : MethodName := ⟨RX6, "<init>", "(LThreeToSend$Squad;)V"⟩
abbrev cX6_forget : ByteArray := prog_8_method_2_code
def yX6_forget : MethodName := ⟨RX6, "forget", "()V"⟩
abbrev cX6_planWorth : ByteArray := prog_8_method_3_code
def yX6_planWorth : MethodName := ⟨RX6, "planWorth", "(I)I"⟩
abbrev cX6_planRow : ByteArray := prog_8_method_4_code
def yX6_planRow : MethodName := ⟨RX6, "planRow", "(II)I"⟩
abbrev cX6_begin : ByteArray := prog_8_method_5_code
def yX6_begin : MethodName := ⟨RX6, "begin", "()I"⟩
abbrev cX6_most : ByteArray := prog_8_method_6_code
def yX6_most : MethodName := ⟨RX6, "most", "(II)I"⟩
abbrev cX6_search : ByteArray := prog_8_method_7_code
def yX6_search : MethodName := ⟨RX6, "search", "(II)I"⟩
abbrev cX6_leastRow : ByteArray := prog_8_method_8_code
def yX6_leastRow : MethodName := ⟨RX6, "leastRow", "(II)I"⟩
abbrev cX6_isRow : ByteArray := prog_8_method_9_code
def yX6_isRow : MethodName := ⟨RX6, "isRow", "(I)Z"⟩
abbrev cX6_worthOf : ByteArray := prog_8_method_10_code
def yX6_worthOf : MethodName := ⟨RX6, "worthOf", "(III)I"⟩
abbrev cX6_next : ByteArray := prog_8_method_11_code
def yX6_next : MethodName := ⟨RX6, "next", "(II)I"⟩
def RX7 : String := "ThreeToSend$Squad"
def TX7 : u_T := fun k => match k with
  | 0 => ("ThreeToSend$Squad", "periods", "I", false)
  | 1 => ("ThreeToSend$Squad", "changes", "I", false)
  | 2 => ("ThreeToSend$Squad", "once", "I", false)
  | 3 => ("ThreeToSend$Squad", "won", "I", false)
  | 4 => ("ThreeToSend$Squad", "drawn", "I", false)
  | 5 => ("ThreeToSend$Squad", "lost", "I", false)
  | 6 => ("ThreeToSend$Squad", "good", "[I", true)
  | 7 => ("ThreeToSend$Squad", "legs", "[I", true)
  | 8 => ("ThreeToSend$Squad", "loss", "[I", true)
  | 9 => ("ThreeToSend$Squad", "pairs", "[I", true)
  | _ => ("ThreeToSend$Squad", "freshness", "[I", true)
def tyX7 : Nat → FieldType := fun k => match k with
  | 0 => .int
  | 1 => .int
  | 2 => .int
  | 3 => .int
  | 4 => .int
  | 5 => .int
  | 6 => .array .int
  | 7 => .array .int
  | 8 => .array .int
  | 9 => .array .int
  | _ => .array .int
abbrev wsX70 : List Cond := u_ws RX7 TX7 11
theorem nmX7 : ∀ a, a < 11 → ∀ b, b < 11 → a ≠ b → (TX7 a).2.1 ≠ (TX7 b).2.1 := by decide +kernel
theorem tyX7_ok : ∀ k, k < 11 → parseFieldDescriptor (TX7 k).2.2.1 = some (tyX7 k) := by decide +kernel
abbrev cX7_init : ByteArray := prog_9_method_1_code
def yX7_init : MethodName := ⟨RX7, "<init>", "()V"⟩
abbrev cX7_setPlayer : ByteArray := prog_9_method_2_code
def yX7_setPlayer : MethodName := ⟨RX7, "setPlayer", "(IIIII)V"⟩
abbrev cX7_setPair : ByteArray := prog_9_method_3_code
def yX7_setPair : MethodName := ⟨RX7, "setPair", "(III)V"⟩
abbrev cX7_setFreshness : ByteArray := prog_9_method_4_code
def yX7_setFreshness : MethodName := ⟨RX7, "setFreshness", "(II)V"⟩
abbrev cX7_goodAt : ByteArray := prog_9_method_5_code
def yX7_goodAt : MethodName := ⟨RX7, "goodAt", "(II)I"⟩
abbrev cX7_legsAtFirst : ByteArray := prog_9_method_6_code
def yX7_legsAtFirst : MethodName := ⟨RX7, "legsAtFirst", "(I)I"⟩
abbrev cX7_pairOf : ByteArray := prog_9_method_7_code
def yX7_pairOf : MethodName := ⟨RX7, "pairOf", "(II)I"⟩
abbrev cX7_freshnessOf : ByteArray := prog_9_method_8_code
def yX7_freshnessOf : MethodName := ⟨RX7, "freshnessOf", "(I)I"⟩
abbrev cX7_worthOf : ByteArray := prog_9_method_9_code
def yX7_worthOf : MethodName := ⟨RX7, "worthOf", "(I)I"⟩
abbrev cX7_scoreBehind : ByteArray := prog_9_method_10_code
def yX7_scoreBehind : MethodName := ⟨RX7, "scoreBehind", "(II)I"⟩
abbrev cX7_digit : ByteArray := prog_9_method_11_code
def yX7_digit : MethodName := ⟨RX7, "digit", "(II)I"⟩
abbrev cX7_unit : ByteArray := prog_9_method_12_code
def yX7_unit : MethodName := ⟨RX7, "unit", "(I)I"⟩
abbrev cX7_isOn : ByteArray := prog_9_method_13_code
def yX7_isOn : MethodName := ⟨RX7, "isOn", "(I)Z"⟩
abbrev cX7_whoIsAt : ByteArray := prog_9_method_14_code
def yX7_whoIsAt : MethodName := ⟨RX7, "whoIsAt", "(II)I"⟩
abbrev cX7_howManyAt : ByteArray := prog_9_method_15_code
def yX7_howManyAt : MethodName := ⟨RX7, "howManyAt", "(II)I"⟩
abbrev cX7_changesMade : ByteArray := prog_9_method_16_code
def yX7_changesMade : MethodName := ⟨RX7, "changesMade", "(I)I"⟩
abbrev cX7_isWellFormed : ByteArray := prog_9_method_17_code
def yX7_isWellFormed : MethodName := ⟨RX7, "isWellFormed", "(I)Z"⟩
abbrev cX7_isCode : ByteArray := prog_9_method_18_code
def yX7_isCode : MethodName := ⟨RX7, "isCode", "(I)Z"⟩
abbrev cX7_lossOf : ByteArray := prog_9_method_19_code
def yX7_lossOf : MethodName := ⟨RX7, "lossOf", "(II)I"⟩
abbrev cX7_legsOf : ByteArray := prog_9_method_20_code
def yX7_legsOf : MethodName := ⟨RX7, "legsOf", "(IIII)I"⟩
abbrev cX7_playerOf : ByteArray := prog_9_method_21_code
def yX7_playerOf : MethodName := ⟨RX7, "playerOf", "(I)I"⟩
abbrev cX7_placeOf : ByteArray := prog_9_method_22_code
def yX7_placeOf : MethodName := ⟨RX7, "placeOf", "(I)I"⟩
abbrev cX7_changesOf : ByteArray := prog_9_method_23_code
def yX7_changesOf : MethodName := ⟨RX7, "changesOf", "(I)I"⟩
abbrev cX7_mayBe : ByteArray := prog_9_method_24_code
def yX7_mayBe : MethodName := ⟨RX7, "mayBe", "(IIII)Z"⟩
abbrev cX7_isWaiting : ByteArray := prog_9_method_25_code
def yX7_isWaiting : MethodName := ⟨RX7, "isWaiting", "(II)Z"⟩
abbrev cX7_codeAfter : ByteArray := prog_9_method_26_code
def yX7_codeAfter : MethodName := ⟨RX7, "codeAfter", "(II)I"⟩
abbrev cX7_sendOn : ByteArray := prog_9_method_27_code
def yX7_sendOn : MethodName := ⟨RX7, "sendOn", "(II)I"⟩
abbrev cX7_takeOff : ByteArray := prog_9_method_28_code
def yX7_takeOff : MethodName := ⟨RX7, "takeOff", "(II)I"⟩
abbrev cX7_codeBehind : ByteArray := prog_9_method_29_code
def yX7_codeBehind : MethodName := ⟨RX7, "codeBehind", "(III)I"⟩
def RX8 : String := "ThreeToSend$Tape"
def TX8 : u_T := fun k => match k with
  | 0 => ("ThreeToSend$Tape", "length", "I", false)
  | _ => ("ThreeToSend$Tape", "bytes", "[I", true)
def tyX8 : Nat → FieldType := fun k => match k with
  | 0 => .int
  | _ => .array .int
abbrev wsX80 : List Cond := u_ws RX8 TX8 2
theorem nmX8 : ∀ a, a < 2 → ∀ b, b < 2 → a ≠ b → (TX8 a).2.1 ≠ (TX8 b).2.1 := by decide +kernel
theorem tyX8_ok : ∀ k, k < 2 → parseFieldDescriptor (TX8 k).2.2.1 = some (tyX8 k) := by decide +kernel
abbrev cX8_init : ByteArray := prog_10_method_1_code
def yX8_init : MethodName := ⟨RX8, "<init>", "()V"⟩
abbrev cX8_write : ByteArray := prog_10_method_2_code
def yX8_write : MethodName := ⟨RX8, "write", "(I)V"⟩
abbrev cX8_byteAt : ByteArray := prog_10_method_3_code
def yX8_byteAt : MethodName := ⟨RX8, "byteAt", "(I)I"⟩
abbrev cX8_numberAt : ByteArray := prog_10_method_4_code
def yX8_numberAt : MethodName := ⟨RX8, "numberAt", "(I)I"⟩
def RX9 : String := "ThreeToSend$Text"
def TX9 : u_T := fun k => match k with
  | 0 => ("ThreeToSend$Text", "clauses", "I", false)
  | 1 => ("ThreeToSend$Text", "length", "I", false)
  | 2 => ("ThreeToSend$Text", "steps", "[I", true)
  | 3 => ("ThreeToSend$Text", "heads", "[I", true)
  | 4 => ("ThreeToSend$Text", "sums", "[I", true)
  | 5 => ("ThreeToSend$Text", "conditions", "[I", true)
  | _ => ("ThreeToSend$Text", "ends", "[I", true)
def tyX9 : Nat → FieldType := fun k => match k with
  | 0 => .int
  | 1 => .int
  | 2 => .array .int
  | 3 => .array .int
  | 4 => .array .int
  | 5 => .array .int
  | _ => .array .int
abbrev wsX90 : List Cond := u_ws RX9 TX9 7
theorem nmX9 : ∀ a, a < 7 → ∀ b, b < 7 → a ≠ b → (TX9 a).2.1 ≠ (TX9 b).2.1 := by decide +kernel
theorem tyX9_ok : ∀ k, k < 7 → parseFieldDescriptor (TX9 k).2.2.1 = some (tyX9 k) := by decide +kernel
abbrev cX9_init : ByteArray := prog_11_method_1_code
def yX9_init : MethodName := ⟨RX9, "<init>", "()V"⟩
abbrev cX9_empty : ByteArray := prog_11_method_2_code
def yX9_empty : MethodName := ⟨RX9, "empty", "()V"⟩
abbrev cX9_beginClause : ByteArray := prog_11_method_3_code
def yX9_beginClause : MethodName := ⟨RX9, "beginClause", "(I)V"⟩
abbrev cX9_beginCondition : ByteArray := prog_11_method_4_code
def yX9_beginCondition : MethodName := ⟨RX9, "beginCondition", "()V"⟩
abbrev cX9_endClause : ByteArray := prog_11_method_5_code
def yX9_endClause : MethodName := ⟨RX9, "endClause", "()V"⟩
abbrev cX9_add : ByteArray := prog_11_method_6_code
def yX9_add : MethodName := ⟨RX9, "add", "(II)I"⟩
abbrev cX9_landHere : ByteArray := prog_11_method_7_code
def yX9_landHere : MethodName := ⟨RX9, "landHere", "(I)V"⟩
abbrev cX9_headOf : ByteArray := prog_11_method_8_code
def yX9_headOf : MethodName := ⟨RX9, "headOf", "(I)I"⟩
abbrev cX9_sumOf : ByteArray := prog_11_method_9_code
def yX9_sumOf : MethodName := ⟨RX9, "sumOf", "(I)I"⟩
abbrev cX9_conditionOf : ByteArray := prog_11_method_10_code
def yX9_conditionOf : MethodName := ⟨RX9, "conditionOf", "(I)I"⟩
abbrev cX9_endOf : ByteArray := prog_11_method_11_code
def yX9_endOf : MethodName := ⟨RX9, "endOf", "(I)I"⟩
def RX10 : String := "ThreeToSend$Walk"
def TX10 : u_T := fun k => match k with
  | 0 => ("ThreeToSend$Walk", "squad", "LThreeToSend$Squad;", true)
  | 1 => ("ThreeToSend$Walk", "odds", "LThreeToSend$Odds;", true)
  | 2 => ("ThreeToSend$Walk", "ends", "[J", true)
  | _ => ("ThreeToSend$Walk", "firsts", "[J", true)
def tyX10 : Nat → FieldType := fun k => match k with
  | 0 => .object "ThreeToSend$Squad"
  | 1 => .object "ThreeToSend$Odds"
  | 2 => .array .long
  | _ => .array .long
abbrev wsX100 : List Cond := u_ws RX10 TX10 4
theorem nmX10 : ∀ a, a < 4 → ∀ b, b < 4 → a ≠ b → (TX10 a).2.1 ≠ (TX10 b).2.1 := by decide +kernel
theorem tyX10_ok : ∀ k, k < 4 → parseFieldDescriptor (TX10 k).2.2.1 = some (tyX10 k) := by decide +kernel
abbrev cX10_init : ByteArray := prog_12_method_1_code
def yX10_init : MethodName := ⟨RX10, "<init>", "(LThreeToSend$Squad;LThreeToSend$Odds;)V"⟩
abbrev cX10_forget : ByteArray := prog_12_method_2_code
def yX10_forget : MethodName := ⟨RX10, "forget", "()V"⟩
abbrev cX10_first : ByteArray := prog_12_method_3_code
def yX10_first : MethodName := ⟨RX10, "first", "(II)J"⟩
abbrev cX10_from : ByteArray := prog_12_method_4_code
def yX10_from : MethodName := ⟨RX10, "from", "(IIIII)V"⟩
abbrev cX10_value : ByteArray := prog_12_method_5_code
def yX10_value : MethodName := ⟨RX10, "value", "()J"⟩
abbrev cX10_likely : ByteArray := prog_12_method_6_code
def yX10_likely : MethodName := ⟨RX10, "likely", "(I)J"⟩
abbrev cX10_go : ByteArray := prog_12_method_7_code
def yX10_go : MethodName := ⟨RX10, "go", "(IIIIIJ)V"⟩
def RX11 : String := "ThreeToSend"
def TX11 : u_T := fun k => match k with
  | 0 => ("ThreeToSend", "squad", "LThreeToSend$Squad;", true)
  | 1 => ("ThreeToSend", "tape", "LThreeToSend$Tape;", true)
  | 2 => ("ThreeToSend", "odds", "LThreeToSend$Odds;", true)
  | 3 => ("ThreeToSend", "reader", "LThreeToSend$Reader;", true)
  | 4 => ("ThreeToSend", "bench", "LThreeToSend$Best;", true)
  | 5 => ("ThreeToSend", "walk", "LThreeToSend$Walk;", true)
  | 6 => ("ThreeToSend", "log", "LThreeToSend$Log;", true)
  | 7 => ("ThreeToSend", "weeks", "LThreeToSend$Season;", true)
  | _ => ("ThreeToSend", "x", "I", false)
def tyX11 : Nat → FieldType := fun k => match k with
  | 0 => .object "ThreeToSend$Squad"
  | 1 => .object "ThreeToSend$Tape"
  | 2 => .object "ThreeToSend$Odds"
  | 3 => .object "ThreeToSend$Reader"
  | 4 => .object "ThreeToSend$Best"
  | 5 => .object "ThreeToSend$Walk"
  | 6 => .object "ThreeToSend$Log"
  | 7 => .object "ThreeToSend$Season"
  | _ => .int
abbrev wsX110 : List Cond := u_ws RX11 TX11 9
theorem nmX11 : ∀ a, a < 9 → ∀ b, b < 9 → a ≠ b → (TX11 a).2.1 ≠ (TX11 b).2.1 := by decide +kernel
theorem tyX11_ok : ∀ k, k < 9 → parseFieldDescriptor (TX11 k).2.2.1 = some (tyX11 k) := by decide +kernel
abbrev cX11_init : ByteArray := prog_1_method_1_code
def yX11_init : MethodName := ⟨RX11, "<init>", "()V"⟩
abbrev cX11_match : ByteArray := prog_1_method_2_code
def yX11_match : MethodName := ⟨RX11, "match", "(III)Z"⟩
abbrev cX11_player : ByteArray := prog_1_method_3_code
def yX11_player : MethodName := ⟨RX11, "player", "(IIIII)Z"⟩
abbrev cX11_pair : ByteArray := prog_1_method_4_code
def yX11_pair : MethodName := ⟨RX11, "pair", "(III)Z"⟩
abbrev cX11_worth : ByteArray := prog_1_method_5_code
def yX11_worth : MethodName := ⟨RX11, "worth", "(III)Z"⟩
abbrev cX11_feed : ByteArray := prog_1_method_6_code
def yX11_feed : MethodName := ⟨RX11, "feed", "(IIIII)I"⟩
abbrev cX11_law : ByteArray := prog_1_method_7_code
def yX11_law : MethodName := ⟨RX11, "law", "(I)I"⟩
abbrev cX11_other : ByteArray := prog_1_method_8_code
def yX11_other : MethodName := ⟨RX11, "other", "(II)I"⟩
abbrev cX11_rule : ByteArray := prog_1_method_9_code
def yX11_rule : MethodName := ⟨RX11, "rule", "(II)I"⟩
abbrev cX11_may : ByteArray := prog_1_method_10_code
def yX11_may : MethodName := ⟨RX11, "may", "(III)I"⟩
abbrev cX11_after : ByteArray := prog_1_method_11_code
def yX11_after : MethodName := ⟨RX11, "after", "(III)I"⟩
abbrev cX11_chance : ByteArray := prog_1_method_12_code
def yX11_chance : MethodName := ⟨RX11, "chance", "(IIIIII)I"⟩
abbrev cX11_best : ByteArray := prog_1_method_13_code
def yX11_best : MethodName := ⟨RX11, "best", "(IIIII)J"⟩
abbrev cX11_by : ByteArray := prog_1_method_14_code
def yX11_by : MethodName := ⟨RX11, "by", "(IIIIII)J"⟩
abbrev cX11_says : ByteArray := prog_1_method_15_code
def yX11_says : MethodName := ⟨RX11, "says", "(IIIII)I"⟩
abbrev cX11_edge : ByteArray := prog_1_method_16_code
def yX11_edge : MethodName := ⟨RX11, "edge", "(II)I"⟩
abbrev cX11_kept : ByteArray := prog_1_method_17_code
def yX11_kept : MethodName := ⟨RX11, "kept", "(I)J"⟩
abbrev cX11_together : ByteArray := prog_1_method_18_code
def yX11_together : MethodName := ⟨RX11, "together", "(I)J"⟩
abbrev cX11_slower : ByteArray := prog_1_method_19_code
def yX11_slower : MethodName := ⟨RX11, "slower", "(I)J"⟩
abbrev cX11_game : ByteArray := prog_1_method_20_code
def yX11_game : MethodName := ⟨RX11, "game", "(I)J"⟩
abbrev cX11_mixed : ByteArray := prog_1_method_21_code
def yX11_mixed : MethodName := ⟨RX11, "mixed", "(IIIII)J"⟩
abbrev cX11_happens : ByteArray := prog_1_method_22_code
def yX11_happens : MethodName := ⟨RX11, "happens", "(II)I"⟩
abbrev cX11_undo : ByteArray := prog_1_method_23_code
def yX11_undo : MethodName := ⟨RX11, "undo", "()I"⟩
abbrev cX11_logged : ByteArray := prog_1_method_24_code
def yX11_logged : MethodName := ⟨RX11, "logged", "(II)I"⟩
abbrev cX11_wrong : ByteArray := prog_1_method_25_code
def yX11_wrong : MethodName := ⟨RX11, "wrong", "(II)J"⟩
abbrev cX11_worst : ByteArray := prog_1_method_26_code
def yX11_worst : MethodName := ⟨RX11, "worst", "(II)J"⟩
abbrev cX11_seed : ByteArray := prog_1_method_27_code
def yX11_seed : MethodName := ⟨RX11, "seed", "(I)Z"⟩
abbrev cX11_draw : ByteArray := prog_1_method_28_code
def yX11_draw : MethodName := ⟨RX11, "draw", "(II)I"⟩
abbrev cX11_fresh : ByteArray := prog_1_method_29_code
def yX11_fresh : MethodName := ⟨RX11, "fresh", "(II)Z"⟩
abbrev cX11_season : ByteArray := prog_1_method_30_code
def yX11_season : MethodName := ⟨RX11, "season", "(II)I"⟩
abbrev cX11_check : ByteArray := prog_1_method_31_code
def yX11_check : MethodName := ⟨RX11, "check", "(I)I"⟩
abbrev cX11_count : ByteArray := prog_1_method_32_code
def yX11_count : MethodName := ⟨RX11, "count", "(I)I"⟩
abbrev cX11_isPlayer : ByteArray := prog_1_method_33_code
def yX11_isPlayer : MethodName := ⟨RX11, "isPlayer", "(I)Z"⟩
abbrev cX11_isDigit : ByteArray := prog_1_method_34_code
def yX11_isDigit : MethodName := ⟨RX11, "isDigit", "(I)Z"⟩
abbrev cX11_isOther : ByteArray := prog_1_method_35_code
def yX11_isOther : MethodName := ⟨RX11, "isOther", "(I)Z"⟩
abbrev cX11_isRule : ByteArray := prog_1_method_36_code
def yX11_isRule : MethodName := ⟨RX11, "isRule", "(I)Z"⟩
abbrev cX11_isScore : ByteArray := prog_1_method_37_code
def yX11_isScore : MethodName := ⟨RX11, "isScore", "(I)Z"⟩
abbrev cX11_isAction : ByteArray := prog_1_method_38_code
def yX11_isAction : MethodName := ⟨RX11, "isAction", "(I)Z"⟩
abbrev cX11_isState : ByteArray := prog_1_method_39_code
def yX11_isState : MethodName := ⟨RX11, "isState", "(III)Z"⟩
abbrev cX11_isEnd : ByteArray := prog_1_method_40_code
def yX11_isEnd : MethodName := ⟨RX11, "isEnd", "(III)Z"⟩
abbrev cX11_isLegal : ByteArray := prog_1_method_41_code
def yX11_isLegal : MethodName := ⟨RX11, "isLegal", "(IIII)Z"⟩
abbrev cX11_isTwo : ByteArray := prog_1_method_42_code
def yX11_isTwo : MethodName := ⟨RX11, "isTwo", "(IIII)Z"⟩
abbrev cX11_forgetMatch : ByteArray := prog_1_method_43_code
def yX11_forgetMatch : MethodName := ⟨RX11, "forgetMatch", "()V"⟩
abbrev cX11_readText : ByteArray := prog_1_method_44_code
def yX11_readText : MethodName := ⟨RX11, "readText", "(IILjava/lang/String;)I"⟩
abbrev cX11_gameLow : ByteArray := prog_1_method_45_code
def yX11_gameLow : MethodName := ⟨RX11, "gameLow", "(I)J"⟩
abbrev cX11_gameHigh : ByteArray := prog_1_method_46_code
def yX11_gameHigh : MethodName := ⟨RX11, "gameHigh", "(I)J"⟩
abbrev cX11_isMet : ByteArray := prog_1_method_47_code
def yX11_isMet : MethodName := ⟨RX11, "isMet", "(II)Z"⟩
abbrev cX11_mixedOf : ByteArray := prog_1_method_48_code
def yX11_mixedOf : MethodName := ⟨RX11, "mixedOf", "(JJJJI)J"⟩
abbrev cX11_greatestDivisor : ByteArray := prog_1_method_49_code
def yX11_greatestDivisor : MethodName := ⟨RX11, "greatestDivisor", "(JJ)J"⟩
abbrev cX11_wrongIn : ByteArray := prog_1_method_50_code
def yX11_wrongIn : MethodName := ⟨RX11, "wrongIn", "(I)J"⟩
abbrev cX11_drawPeriod : ByteArray := prog_1_method_51_code
def yX11_drawPeriod : MethodName := ⟨RX11, "drawPeriod", "(III)V"⟩
def RX12 : String := "ThreeToSendModel"
def TX12 : u_T := fun k => match k with
  | 0 => ("ThreeToSendModel", "periods", "I", false)
  | 1 => ("ThreeToSendModel", "mostAll", "I", false)
  | 2 => ("ThreeToSendModel", "mostOnce", "I", false)
  | 3 => ("ThreeToSendModel", "x0", "I", false)
  | 4 => ("ThreeToSendModel", "worthOf", "[I", true)
  | 5 => ("ThreeToSendModel", "goodOf", "[I", true)
  | 6 => ("ThreeToSendModel", "legsOf", "[I", true)
  | 7 => ("ThreeToSendModel", "lossOf", "[I", true)
  | 8 => ("ThreeToSendModel", "pairOf", "[I", true)
  | 9 => ("ThreeToSendModel", "freshOf", "[I", true)
  | 10 => ("ThreeToSendModel", "tape", "[B", true)
  | 11 => ("ThreeToSendModel", "taped", "I", false)
  | 12 => ("ThreeToSendModel", "place0", "I", false)
  | 13 => ("ThreeToSendModel", "length0", "I", false)
  | 14 => ("ThreeToSendModel", "fault", "I", false)
  | 15 => ("ThreeToSendModel", "open", "I", false)
  | 16 => ("ThreeToSendModel", "codeMany", "I", false)
  | 17 => ("ThreeToSendModel", "waiting", "I", false)
  | 18 => ("ThreeToSendModel", "saidMany", "I", false)
  | 19 => ("ThreeToSendModel", "number0", "I", false)
  | 20 => ("ThreeToSendModel", "said", "[I", true)
  | 21 => ("ThreeToSendModel", "waits", "[I", true)
  | 22 => ("ThreeToSendModel", "saidLetter", "[I", true)
  | 23 => ("ThreeToSendModel", "saidFrom", "[I", true)
  | 24 => ("ThreeToSendModel", "saidHalf", "[I", true)
  | 25 => ("ThreeToSendModel", "saidTo", "[I", true)
  | 26 => ("ThreeToSendModel", "codes", "[I", true)
  | 27 => ("ThreeToSendModel", "clauseMany", "[I", true)
  | 28 => ("ThreeToSendModel", "letterOf", "[I", true)
  | 29 => ("ThreeToSendModel", "codeFrom", "[I", true)
  | 30 => ("ThreeToSendModel", "codeHalf", "[I", true)
  | 31 => ("ThreeToSendModel", "codeTo", "[I", true)
  | 32 => ("ThreeToSendModel", "stack", "[I", true)
  | 33 => ("ThreeToSendModel", "facts", "[I", true)
  | 34 => ("ThreeToSendModel", "allNow", "I", false)
  | 35 => ("ThreeToSendModel", "onceNow", "I", false)
  | 36 => ("ThreeToSendModel", "paceNow", "I", false)
  | 37 => ("ThreeToSendModel", "chances", "[I", true)
  | 38 => ("ThreeToSendModel", "comes", "[Z", true)
  | 39 => ("ThreeToSendModel", "valueOf", "[J", true)
  | 40 => ("ThreeToSendModel", "wonOf", "[J", true)
  | 41 => ("ThreeToSendModel", "drawnOf", "[J", true)
  | 42 => ("ThreeToSendModel", "lostOf", "[J", true)
  | 43 => ("ThreeToSendModel", "actionOf", "[B", true)
  | 44 => ("ThreeToSendModel", "wonThen", "J", false)
  | 45 => ("ThreeToSendModel", "drawnThen", "J", false)
  | 46 => ("ThreeToSendModel", "lostThen", "J", false)
  | 47 => ("ThreeToSendModel", "table", "[J", true)
  | 48 => ("ThreeToSendModel", "logMany", "I", false)
  | 49 => ("ThreeToSendModel", "logCode", "[I", true)
  | 50 => ("ThreeToSendModel", "logScore", "[I", true)
  | 51 => ("ThreeToSendModel", "logAction", "[I", true)
  | 52 => ("ThreeToSendModel", "logWhat", "[I", true)
  | _ => ("ThreeToSendModel", "seasonOf", "[I", true)
def tyX12 : Nat → FieldType := fun k => match k with
  | 0 => .int
  | 1 => .int
  | 2 => .int
  | 3 => .int
  | 4 => .array .int
  | 5 => .array .int
  | 6 => .array .int
  | 7 => .array .int
  | 8 => .array .int
  | 9 => .array .int
  | 10 => .array .byte
  | 11 => .int
  | 12 => .int
  | 13 => .int
  | 14 => .int
  | 15 => .int
  | 16 => .int
  | 17 => .int
  | 18 => .int
  | 19 => .int
  | 20 => .array .int
  | 21 => .array .int
  | 22 => .array .int
  | 23 => .array .int
  | 24 => .array .int
  | 25 => .array .int
  | 26 => .array .int
  | 27 => .array .int
  | 28 => .array .int
  | 29 => .array .int
  | 30 => .array .int
  | 31 => .array .int
  | 32 => .array .int
  | 33 => .array .int
  | 34 => .int
  | 35 => .int
  | 36 => .int
  | 37 => .array .int
  | 38 => .array .boolean
  | 39 => .array .long
  | 40 => .array .long
  | 41 => .array .long
  | 42 => .array .long
  | 43 => .array .byte
  | 44 => .long
  | 45 => .long
  | 46 => .long
  | 47 => .array .long
  | 48 => .int
  | 49 => .array .int
  | 50 => .array .int
  | 51 => .array .int
  | 52 => .array .int
  | _ => .array .int
abbrev wsX120 : List Cond := u_ws RX12 TX12 54
theorem nmX12 : ∀ a, a < 54 → ∀ b, b < 54 → a ≠ b → (TX12 a).2.1 ≠ (TX12 b).2.1 := by decide +kernel
theorem tyX12_ok : ∀ k, k < 54 → parseFieldDescriptor (TX12 k).2.2.1 = some (tyX12 k) := by decide +kernel
abbrev cX12_init : ByteArray := prog_14_method_1_code
def yX12_init : MethodName := ⟨RX12, "<init>", "()V"⟩
abbrev cX12_in : ByteArray := prog_14_method_2_code
def yX12_in : MethodName := ⟨RX12, "in", "(III)Z"⟩
abbrev cX12_match : ByteArray := prog_14_method_3_code
def yX12_match : MethodName := ⟨RX12, "match", "(III)Z"⟩
abbrev cX12_player : ByteArray := prog_14_method_4_code
def yX12_player : MethodName := ⟨RX12, "player", "(IIIII)Z"⟩
abbrev cX12_pair : ByteArray := prog_14_method_5_code
def yX12_pair : MethodName := ⟨RX12, "pair", "(III)Z"⟩
abbrev cX12_worth : ByteArray := prog_14_method_6_code
def yX12_worth : MethodName := ⟨RX12, "worth", "(III)Z"⟩
abbrev cX12_seed : ByteArray := prog_14_method_7_code
def yX12_seed : MethodName := ⟨RX12, "seed", "(I)Z"⟩
abbrev cX12_fresh : ByteArray := prog_14_method_8_code
def yX12_fresh : MethodName := ⟨RX12, "fresh", "(II)Z"⟩
abbrev cX12_types : ByteArray := prog_14_method_9_code
def yX12_types : MethodName := ⟨RX12, "types", "(I)V"⟩
abbrev cX12_feed : ByteArray := prog_14_method_10_code
def yX12_feed : MethodName := ⟨RX12, "feed", "(IIIII)I"⟩
abbrev cX12_here : ByteArray := prog_14_method_11_code
def yX12_here : MethodName := ⟨RX12, "here", "()I"⟩
abbrev cX12_isDigit : ByteArray := prog_14_method_12_code
def yX12_isDigit : MethodName := ⟨RX12, "isDigit", "()Z"⟩
abbrev cX12_wrongAt : ByteArray := prog_14_method_13_code
def yX12_wrongAt : MethodName := ⟨RX12, "wrongAt", "(II)Z"⟩
abbrev cX12_takes : ByteArray := prog_14_method_14_code
def yX12_takes : MethodName := ⟨RX12, "takes", "(I)Z"⟩
abbrev cX12_readsNumber : ByteArray := prog_14_method_15_code
def yX12_readsNumber : MethodName := ⟨RX12, "readsNumber", "()Z"⟩
abbrev cX12_notes : ByteArray := prog_14_method_16_code
def yX12_notes : MethodName := ⟨RX12, "notes", "(II)V"⟩
abbrev cX12_opens : ByteArray := prog_14_method_17_code
def yX12_opens : MethodName := ⟨RX12, "opens", "(I)Z"⟩
abbrev cX12_top : ByteArray := prog_14_method_18_code
def yX12_top : MethodName := ⟨RX12, "top", "()I"⟩
abbrev cX12_factOf : ByteArray := prog_14_method_19_code
def yX12_factOf : MethodName := ⟨RX12, "factOf", "(I)I"⟩
abbrev cX12_sumSign : ByteArray := prog_14_method_20_code
def yX12_sumSign : MethodName := ⟨RX12, "sumSign", "(I)I"⟩
abbrev cX12_closesSums : ByteArray := prog_14_method_21_code
def yX12_closesSums : MethodName := ⟨RX12, "closesSums", "(Z)V"⟩
abbrev cX12_readsFactor : ByteArray := prog_14_method_22_code
def yX12_readsFactor : MethodName := ⟨RX12, "readsFactor", "()Z"⟩
abbrev cX12_hasOpenSum : ByteArray := prog_14_method_23_code
def yX12_hasOpenSum : MethodName := ⟨RX12, "hasOpenSum", "(I)Z"⟩
abbrev cX12_readsSum : ByteArray := prog_14_method_24_code
def yX12_readsSum : MethodName := ⟨RX12, "readsSum", "()Z"⟩
abbrev cX12_endsPiece : ByteArray := prog_14_method_25_code
def yX12_endsPiece : MethodName := ⟨RX12, "endsPiece", "()V"⟩
abbrev cX12_lands : ByteArray := prog_14_method_26_code
def yX12_lands : MethodName := ⟨RX12, "lands", "(Z)V"⟩
abbrev cX12_jumps : ByteArray := prog_14_method_27_code
def yX12_jumps : MethodName := ⟨RX12, "jumps", "(I)V"⟩
abbrev cX12_readsCompared : ByteArray := prog_14_method_28_code
def yX12_readsCompared : MethodName := ⟨RX12, "readsCompared", "()Z"⟩
abbrev cX12_readsCondition : ByteArray := prog_14_method_29_code
def yX12_readsCondition : MethodName := ⟨RX12, "readsCondition", "()Z"⟩
abbrev cX12_canBegin : ByteArray := prog_14_method_30_code
def yX12_canBegin : MethodName := ⟨RX12, "canBegin", "(II)Z"⟩
abbrev cX12_readsClause : ByteArray := prog_14_method_31_code
def yX12_readsClause : MethodName := ⟨RX12, "readsClause", "(I)Z"⟩
abbrev cX12_reads : ByteArray := prog_14_method_32_code
def yX12_reads : MethodName := ⟨RX12, "reads", "(II)I"⟩
abbrev cX12_law : ByteArray := prog_14_method_33_code
def yX12_law : MethodName := ⟨RX12, "law", "(I)I"⟩
abbrev cX12_other : ByteArray := prog_14_method_34_code
def yX12_other : MethodName := ⟨RX12, "other", "(II)I"⟩
abbrev cX12_rule : ByteArray := prog_14_method_35_code
def yX12_rule : MethodName := ⟨RX12, "rule", "(II)I"⟩
abbrev cX12_reckon : ByteArray := prog_14_method_36_code
def yX12_reckon : MethodName := ⟨RX12, "reckon", "(III)I"⟩
abbrev cX12_comesTo : ByteArray := prog_14_method_37_code
def yX12_comesTo : MethodName := ⟨RX12, "comesTo", "(II)I"⟩
abbrev cX12_byText : ByteArray := prog_14_method_38_code
def yX12_byText : MethodName := ⟨RX12, "byText", "(IIIII)I"⟩
abbrev cX12_digit : ByteArray := prog_14_method_39_code
def yX12_digit : MethodName := ⟨RX12, "digit", "(II)I"⟩
abbrev cX12_withDigit : ByteArray := prog_14_method_40_code
def yX12_withDigit : MethodName := ⟨RX12, "withDigit", "(III)I"⟩
abbrev cX12_taken : ByteArray := prog_14_method_41_code
def yX12_taken : MethodName := ⟨RX12, "taken", "(I)I"⟩
abbrev cX12_toldOf : ByteArray := prog_14_method_42_code
def yX12_toldOf : MethodName := ⟨RX12, "toldOf", "(I)I"⟩
abbrev cX12_made : ByteArray := prog_14_method_43_code
def yX12_made : MethodName := ⟨RX12, "made", "(I)I"⟩
abbrev cX12_whoAt : ByteArray := prog_14_method_44_code
def yX12_whoAt : MethodName := ⟨RX12, "whoAt", "(II)I"⟩
abbrev cX12_offWith : ByteArray := prog_14_method_45_code
def yX12_offWith : MethodName := ⟨RX12, "offWith", "(II)I"⟩
abbrev cX12_lossBy : ByteArray := prog_14_method_46_code
def yX12_lossBy : MethodName := ⟨RX12, "lossBy", "(I)I"⟩
abbrev cX12_legsAt : ByteArray := prog_14_method_47_code
def yX12_legsAt : MethodName := ⟨RX12, "legsAt", "(III)I"⟩
abbrev cX12_firstOf : ByteArray := prog_14_method_48_code
def yX12_firstOf : MethodName := ⟨RX12, "firstOf", "(I)I"⟩
abbrev cX12_secondOf : ByteArray := prog_14_method_49_code
def yX12_secondOf : MethodName := ⟨RX12, "secondOf", "(I)I"⟩
abbrev cX12_playerOf : ByteArray := prog_14_method_50_code
def yX12_playerOf : MethodName := ⟨RX12, "playerOf", "(I)I"⟩
abbrev cX12_placeOf : ByteArray := prog_14_method_51_code
def yX12_placeOf : MethodName := ⟨RX12, "placeOf", "(I)I"⟩
abbrev cX12_changesOf : ByteArray := prog_14_method_52_code
def yX12_changesOf : MethodName := ⟨RX12, "changesOf", "(I)I"⟩
abbrev cX12_isAction : ByteArray := prog_14_method_53_code
def yX12_isAction : MethodName := ⟨RX12, "isAction", "(I)Z"⟩
abbrev cX12_mayBe : ByteArray := prog_14_method_54_code
def yX12_mayBe : MethodName := ⟨RX12, "mayBe", "(II)Z"⟩
abbrev cX12_changed : ByteArray := prog_14_method_55_code
def yX12_changed : MethodName := ⟨RX12, "changed", "(II)I"⟩
abbrev cX12_behind : ByteArray := prog_14_method_56_code
def yX12_behind : MethodName := ⟨RX12, "behind", "(II)I"⟩
abbrev cX12_isAhead : ByteArray := prog_14_method_57_code
def yX12_isAhead : MethodName := ⟨RX12, "isAhead", "(I)Z"⟩
abbrev cX12_may : ByteArray := prog_14_method_58_code
def yX12_may : MethodName := ⟨RX12, "may", "(III)I"⟩
abbrev cX12_after : ByteArray := prog_14_method_59_code
def yX12_after : MethodName := ⟨RX12, "after", "(III)I"⟩
abbrev cX12_strength : ByteArray := prog_14_method_60_code
def yX12_strength : MethodName := ⟨RX12, "strength", "(III)I"⟩
abbrev cX12_feels : ByteArray := prog_14_method_61_code
def yX12_feels : MethodName := ⟨RX12, "feels", "(IIIII)V"⟩
abbrev cX12_hurtAt : ByteArray := prog_14_method_62_code
def yX12_hurtAt : MethodName := ⟨RX12, "hurtAt", "(IIII)I"⟩
abbrev cX12_lots : ByteArray := prog_14_method_63_code
def yX12_lots : MethodName := ⟨RX12, "lots", "(IIIII)V"⟩
abbrev cX12_isScore : ByteArray := prog_14_method_64_code
def yX12_isScore : MethodName := ⟨RX12, "isScore", "(I)Z"⟩
abbrev cX12_isOther : ByteArray := prog_14_method_65_code
def yX12_isOther : MethodName := ⟨RX12, "isOther", "(I)Z"⟩
abbrev cX12_chance : ByteArray := prog_14_method_66_code
def yX12_chance : MethodName := ⟨RX12, "chance", "(IIIIII)I"⟩
abbrev cX12_scoreAfter : ByteArray := prog_14_method_67_code
def yX12_scoreAfter : MethodName := ⟨RX12, "scoreAfter", "(II)I"⟩
abbrev cX12_codeAfter : ByteArray := prog_14_method_68_code
def yX12_codeAfter : MethodName := ⟨RX12, "codeAfter", "(II)I"⟩
abbrev cX12_placeIn : ByteArray := prog_14_method_69_code
def yX12_placeIn : MethodName := ⟨RX12, "placeIn", "(III)I"⟩
abbrev cX12_ruled : ByteArray := prog_14_method_70_code
def yX12_ruled : MethodName := ⟨RX12, "ruled", "(IIIII)I"⟩
abbrev cX12_marks : ByteArray := prog_14_method_71_code
def yX12_marks : MethodName := ⟨RX12, "marks", "(IIIII)V"⟩
abbrev cX12_marksAll : ByteArray := prog_14_method_72_code
def yX12_marksAll : MethodName := ⟨RX12, "marksAll", "(IIII)V"⟩
abbrev cX12_actionWorth : ByteArray := prog_14_method_73_code
def yX12_actionWorth : MethodName := ⟨RX12, "actionWorth", "(IIIII)J"⟩
abbrev cX12_ends : ByteArray := prog_14_method_74_code
def yX12_ends : MethodName := ⟨RX12, "ends", "(I)V"⟩
abbrev cX12_tells : ByteArray := prog_14_method_75_code
def yX12_tells : MethodName := ⟨RX12, "tells", "(IIII)V"⟩
abbrev cX12_solves : ByteArray := prog_14_method_76_code
def yX12_solves : MethodName := ⟨RX12, "solves", "(IIIII)J"⟩
abbrev cX12_isState : ByteArray := prog_14_method_77_code
def yX12_isState : MethodName := ⟨RX12, "isState", "(IIII)Z"⟩
abbrev cX12_best : ByteArray := prog_14_method_78_code
def yX12_best : MethodName := ⟨RX12, "best", "(IIIII)J"⟩
abbrev cX12_isRule : ByteArray := prog_14_method_79_code
def yX12_isRule : MethodName := ⟨RX12, "isRule", "(I)Z"⟩
abbrev cX12_by : ByteArray := prog_14_method_80_code
def yX12_by : MethodName := ⟨RX12, "by", "(IIIIII)J"⟩
abbrev cX12_says : ByteArray := prog_14_method_81_code
def yX12_says : MethodName := ⟨RX12, "says", "(IIIII)I"⟩
abbrev cX12_edge : ByteArray := prog_14_method_82_code
def yX12_edge : MethodName := ⟨RX12, "edge", "(II)I"⟩
abbrev cX12_firstWith : ByteArray := prog_14_method_83_code
def yX12_firstWith : MethodName := ⟨RX12, "firstWith", "(IIII)J"⟩
abbrev cX12_kept : ByteArray := prog_14_method_84_code
def yX12_kept : MethodName := ⟨RX12, "kept", "(I)J"⟩
abbrev cX12_together : ByteArray := prog_14_method_85_code
def yX12_together : MethodName := ⟨RX12, "together", "(I)J"⟩
abbrev cX12_slower : ByteArray := prog_14_method_86_code
def yX12_slower : MethodName := ⟨RX12, "slower", "(I)J"⟩
abbrev cX12_isToldOther : ByteArray := prog_14_method_87_code
def yX12_isToldOther : MethodName := ⟨RX12, "isToldOther", "(I)Z"⟩
abbrev cX12_plays : ByteArray := prog_14_method_88_code
def yX12_plays : MethodName := ⟨RX12, "plays", "()V"⟩
abbrev cX12_isSome : ByteArray := prog_14_method_89_code
def yX12_isSome : MethodName := ⟨RX12, "isSome", "()Z"⟩
abbrev cX12_leastOf : ByteArray := prog_14_method_90_code
def yX12_leastOf : MethodName := ⟨RX12, "leastOf", "(I)J"⟩
abbrev cX12_greatestOf : ByteArray := prog_14_method_91_code
def yX12_greatestOf : MethodName := ⟨RX12, "greatestOf", "(I)J"⟩
abbrev cX12_game : ByteArray := prog_14_method_92_code
def yX12_game : MethodName := ⟨RX12, "game", "(I)J"⟩
abbrev cX12_less : ByteArray := prog_14_method_93_code
def yX12_less : MethodName := ⟨RX12, "less", "(JJ)J"⟩
abbrev cX12_more : ByteArray := prog_14_method_94_code
def yX12_more : MethodName := ⟨RX12, "more", "(JJ)J"⟩
abbrev cX12_gcd : ByteArray := prog_14_method_95_code
def yX12_gcd : MethodName := ⟨RX12, "gcd", "(JJ)J"⟩
abbrev cX12_mixed : ByteArray := prog_14_method_96_code
def yX12_mixed : MethodName := ⟨RX12, "mixed", "(IIIII)J"⟩
abbrev cX12_begins : ByteArray := prog_14_method_97_code
def yX12_begins : MethodName := ⟨RX12, "begins", "()V"⟩
abbrev cX12_logs : ByteArray := prog_14_method_98_code
def yX12_logs : MethodName := ⟨RX12, "logs", "(II)V"⟩
abbrev cX12_happens : ByteArray := prog_14_method_99_code
def yX12_happens : MethodName := ⟨RX12, "happens", "(II)I"⟩
abbrev cX12_undo : ByteArray := prog_14_method_100_code
def yX12_undo : MethodName := ⟨RX12, "undo", "()I"⟩
abbrev cX12_logged : ByteArray := prog_14_method_101_code
def yX12_logged : MethodName := ⟨RX12, "logged", "(II)I"⟩
abbrev cX12_wrongIn : ByteArray := prog_14_method_102_code
def yX12_wrongIn : MethodName := ⟨RX12, "wrongIn", "(II)J"⟩
abbrev cX12_wrong : ByteArray := prog_14_method_103_code
def yX12_wrong : MethodName := ⟨RX12, "wrong", "(II)J"⟩
abbrev cX12_worst : ByteArray := prog_14_method_104_code
def yX12_worst : MethodName := ⟨RX12, "worst", "(II)J"⟩
abbrev cX12_draw : ByteArray := prog_14_method_105_code
def yX12_draw : MethodName := ⟨RX12, "draw", "(II)I"⟩
abbrev cX12_freshIn : ByteArray := prog_14_method_106_code
def yX12_freshIn : MethodName := ⟨RX12, "freshIn", "(II)I"⟩
abbrev cX12_freshAfter : ByteArray := prog_14_method_107_code
def yX12_freshAfter : MethodName := ⟨RX12, "freshAfter", "(III)I"⟩
abbrev cX12_weekWorth : ByteArray := prog_14_method_108_code
def yX12_weekWorth : MethodName := ⟨RX12, "weekWorth", "(III)I"⟩
abbrev cX12_seasonBy : ByteArray := prog_14_method_109_code
def yX12_seasonBy : MethodName := ⟨RX12, "seasonBy", "(IIII)I"⟩
abbrev cX12_seasons : ByteArray := prog_14_method_110_code
def yX12_seasons : MethodName := ⟨RX12, "seasons", "(I)V"⟩
abbrev cX12_season : ByteArray := prog_14_method_111_code
def yX12_season : MethodName := ⟨RX12, "season", "(II)I"⟩
abbrev cX12_tapeNumber : ByteArray := prog_14_method_112_code
def yX12_tapeNumber : MethodName := ⟨RX12, "tapeNumber", "(I)I"⟩
abbrev cX12_check : ByteArray := prog_14_method_113_code
def yX12_check : MethodName := ⟨RX12, "check", "(I)I"⟩
abbrev cX12_count : ByteArray := prog_14_method_114_code
def yX12_count : MethodName := ⟨RX12, "count", "(I)I"⟩
def RJ11 : String := "java/lang/Character"
def TJ11 : u_T := fun k => match k with
  | _ => ("", "", "", false)
def tyJ11 : Nat → FieldType := fun k => match k with
  | _ => .int
abbrev wsJ110 : List Cond := u_ws RJ11 TJ11 0
theorem nmJ11 : ∀ a, a < 0 → ∀ b, b < 0 → a ≠ b → (TJ11 a).2.1 ≠ (TJ11 b).2.1 := by decide +kernel
theorem tyJ11_ok : ∀ k, k < 0 → parseFieldDescriptor (TJ11 k).2.2.1 = some (tyJ11 k) := by decide +kernel
abbrev cJ11_isValidCodePoint_9a6ad : ByteArray := prog_15_method_11_code
def yJ11_isValidCodePoint_9a6ad : MethodName := ⟨RJ11, "isValidCodePoint", "(I)Z"⟩
abbrev cJ11_highSurrogate_5068e : ByteArray := prog_15_method_28_code
def yJ11_highSurrogate_5068e : MethodName := ⟨RJ11, "highSurrogate", "(I)C"⟩
abbrev cJ11_lowSurrogate_5068e : ByteArray := prog_15_method_29_code
def yJ11_lowSurrogate_5068e : MethodName := ⟨RJ11, "lowSurrogate", "(I)C"⟩
def RJ9 : String := "java/lang/Math"
def TJ9 : u_T := fun k => match k with
  | _ => ("", "", "", false)
def tyJ9 : Nat → FieldType := fun k => match k with
  | _ => .int
abbrev wsJ90 : List Cond := u_ws RJ9 TJ9 0
theorem nmJ9 : ∀ a, a < 0 → ∀ b, b < 0 → a ≠ b → (TJ9 a).2.1 ≠ (TJ9 b).2.1 := by decide +kernel
theorem tyJ9_ok : ∀ k, k < 0 → parseFieldDescriptor (TJ9 k).2.2.1 = some (tyJ9 k) := by decide +kernel
abbrev cJ9_abs_067f4 : ByteArray := prog_16_method_61_code
def yJ9_abs_067f4 : MethodName := ⟨RJ9, "abs", "(J)J"⟩
abbrev cJ9_max_7cf53 : ByteArray := prog_16_method_65_code
def yJ9_max_7cf53 : MethodName := ⟨RJ9, "max", "(II)I"⟩
abbrev cJ9_max_f86c9 : ByteArray := prog_16_method_66_code
def yJ9_max_f86c9 : MethodName := ⟨RJ9, "max", "(JJ)J"⟩
abbrev cJ9_min_7cf53 : ByteArray := prog_16_method_69_code
def yJ9_min_7cf53 : MethodName := ⟨RJ9, "min", "(II)I"⟩
abbrev cJ9_min_f86c9 : ByteArray := prog_16_method_70_code
def yJ9_min_f86c9 : MethodName := ⟨RJ9, "min", "(JJ)J"⟩
def RJ0 : String := "java/lang/String"
def TJ0 : u_T := fun k => match k with
  | _ => ("", "", "", false)
def tyJ0 : Nat → FieldType := fun k => match k with
  | _ => .int
abbrev wsJ00 : List Cond := u_ws RJ0 TJ0 0
theorem nmJ0 : ∀ a, a < 0 → ∀ b, b < 0 → a ≠ b → (TJ0 a).2.1 ≠ (TJ0 b).2.1 := by decide +kernel
theorem tyJ0_ok : ∀ k, k < 0 → parseFieldDescriptor (TJ0 k).2.2.1 = some (tyJ0 k) := by decide +kernel
abbrev cJ0_length_8abf5 : ByteArray := prog_17_method_54_code
def yJ0_length_8abf5 : MethodName := ⟨RJ0, "length", "()I"⟩
abbrev cJ0_indexOf_0f7a4 : ByteArray := prog_17_method_79_code
def yJ0_indexOf_0f7a4 : MethodName := ⟨RJ0, "indexOf", "(I)I"⟩
abbrev cJ0_indexOf_7cf53 : ByteArray := prog_17_method_80_code
def yJ0_indexOf_7cf53 : MethodName := ⟨RJ0, "indexOf", "(II)I"⟩
abbrev cJ0_coder_7d493 : ByteArray := prog_17_method_152_code
def yJ0_coder_7d493 : MethodName := ⟨RJ0, "coder", "()B"⟩
abbrev cJ0_isLatin1_aae02 : ByteArray := prog_17_method_154_code
def yJ0_isLatin1_aae02 : MethodName := ⟨RJ0, "isLatin1", "()Z"⟩
abbrev cJ0_checkBoundsBeginEnd_23922 : ByteArray := prog_17_method_158_code
def yJ0_checkBoundsBeginEnd_23922 : MethodName := ⟨RJ0, "checkBoundsBeginEnd", "(III)V"⟩
def RJ1 : String := "java/lang/StringLatin1"
def TJ1 : u_T := fun k => match k with
  | _ => ("", "", "", false)
def tyJ1 : Nat → FieldType := fun k => match k with
  | _ => .int
abbrev wsJ10 : List Cond := u_ws RJ1 TJ1 0
theorem nmJ1 : ∀ a, a < 0 → ∀ b, b < 0 → a ≠ b → (TJ1 a).2.1 ≠ (TJ1 b).2.1 := by decide +kernel
theorem tyJ1_ok : ∀ k, k < 0 → parseFieldDescriptor (TJ1 k).2.2.1 = some (tyJ1 k) := by decide +kernel
abbrev cJ1_canEncode_9a6ad : ByteArray := prog_18_method_4_code
def yJ1_canEncode_9a6ad : MethodName := ⟨RJ1, "canEncode", "(I)Z"⟩
abbrev cJ1_indexOf_4cfef : ByteArray := prog_18_method_22_code
def yJ1_indexOf_4cfef : MethodName := ⟨RJ1, "indexOf", "([BIII)I"⟩
abbrev cJ1_indexOfChar_4cfef : ByteArray := prog_18_method_23_code
def yJ1_indexOfChar_4cfef : MethodName := ⟨RJ1, "indexOfChar", "([BIII)I"⟩
def RJ2 : String := "java/lang/StringUTF16"
def TJ2 : u_T := fun k => match k with
  | _ => ("", "", "", false)
def tyJ2 : Nat → FieldType := fun k => match k with
  | _ => .int
abbrev wsJ20 : List Cond := u_ws RJ2 TJ2 0
theorem nmJ2 : ∀ a, a < 0 → ∀ b, b < 0 → a ≠ b → (TJ2 a).2.1 ≠ (TJ2 b).2.1 := by decide +kernel
theorem tyJ2_ok : ∀ k, k < 0 → parseFieldDescriptor (TJ2 k).2.2.1 = some (tyJ2 k) := by decide +kernel
abbrev cJ2_getChar_3b067 : ByteArray := prog_19_method_5_code
def yJ2_getChar_3b067 : MethodName := ⟨RJ2, "getChar", "([BI)C"⟩
abbrev cJ2_length_9d52b : ByteArray := prog_19_method_6_code
def yJ2_length_9d52b : MethodName := ⟨RJ2, "length", "([B)I"⟩
abbrev cJ2_indexOf_4cfef : ByteArray := prog_19_method_40_code
def yJ2_indexOf_4cfef : MethodName := ⟨RJ2, "indexOf", "([BIII)I"⟩
abbrev cJ2_indexOfChar_4cfef : ByteArray := prog_19_method_47_code
def yJ2_indexOfChar_4cfef : MethodName := ⟨RJ2, "indexOfChar", "([BIII)I"⟩
abbrev cJ2_indexOfCharUnsafe_4cfef : ByteArray := prog_19_method_48_code
def yJ2_indexOfCharUnsafe_4cfef : MethodName := ⟨RJ2, "indexOfCharUnsafe", "([BIII)I"⟩
abbrev cJ2_indexOfSupplementary_4cfef : ByteArray := prog_19_method_49_code
def yJ2_indexOfSupplementary_4cfef : MethodName := ⟨RJ2, "indexOfSupplementary", "([BIII)I"⟩
abbrev cJ2_checkBoundsBeginEnd_d044e : ByteArray := prog_19_method_93_code
def yJ2_checkBoundsBeginEnd_d044e : MethodName := ⟨RJ2, "checkBoundsBeginEnd", "(II[B)V"⟩
def RJ3 : String := "jdk/internal/util/Preconditions"
def TJ3 : u_T := fun k => match k with
  | _ => ("", "", "", false)
def tyJ3 : Nat → FieldType := fun k => match k with
  | _ => .int
abbrev wsJ30 : List Cond := u_ws RJ3 TJ3 0
theorem nmJ3 : ∀ a, a < 0 → ∀ b, b < 0 → a ≠ b → (TJ3 a).2.1 ≠ (TJ3 b).2.1 := by decide +kernel
theorem tyJ3_ok : ∀ k, k < 0 → parseFieldDescriptor (TJ3 k).2.2.1 = some (tyJ3 k) := by decide +kernel
abbrev cJ3_checkFromToIndex_8c36e : ByteArray := prog_20_method_12_code
def yJ3_checkFromToIndex_8c36e : MethodName := ⟨RJ3, "checkFromToIndex", "(IIILjava/util/function/BiFunction;)I"⟩
def RL : String := "ThreeToSendLaw"
abbrev cL_law : ByteArray := code
def yL_law : MethodName := ⟨RL, "law", "([I)Z"⟩
abbrev vwCl : List vw_C := [(RX0, TX0, 10), (RX1, TX1, 6), (RX2, TX2, 3), (RX3, TX3, 8), (RX4, TX4, 4), (RX6, TX6, 3), (RX7, TX7, 11), (RX8, TX8, 2), (RX9, TX9, 7), (RX10, TX10, 4), (RX11, TX11, 9), (RX12, TX12, 54)]
theorem inlX0 : GoodIn lw_tbl wsX00 := goodIn_r _ [336, 338, 340, 342, 344, 346, 348, 350, 352, 354] (by decide +kernel) (by decide +kernel)
theorem inlX1 : GoodIn lw_tbl wsX10 := goodIn_r _ [390, 392, 394, 396, 398, 400] (by decide +kernel) (by decide +kernel)
theorem inlX2 : GoodIn lw_tbl wsX20 := goodIn_r _ [265, 267, 269] (by decide +kernel) (by decide +kernel)
theorem inlX3 : GoodIn lw_tbl wsX30 := goodIn_r _ [290, 292, 294, 296, 298, 300, 302, 304] (by decide +kernel) (by decide +kernel)
theorem inlX4 : GoodIn lw_tbl wsX40 := goodIn_r _ [220, 222, 224, 226] (by decide +kernel) (by decide +kernel)
theorem inlX6 : GoodIn lw_tbl wsX60 := goodIn_r _ [412, 414, 416] (by decide +kernel) (by decide +kernel)
theorem inlX7 : GoodIn lw_tbl wsX70 := goodIn_r _ [165, 167, 169, 171, 173, 175, 177, 179, 181, 183, 185] (by decide +kernel) (by decide +kernel)
theorem inlX8 : GoodIn lw_tbl wsX80 := goodIn_r _ [199, 201] (by decide +kernel) (by decide +kernel)
theorem inlX9 : GoodIn lw_tbl wsX90 := goodIn_r _ [247, 249, 251, 253, 255, 257, 259] (by decide +kernel) (by decide +kernel)
theorem inlX10 : GoodIn lw_tbl wsX100 := goodIn_r _ [368, 370, 372, 374] (by decide +kernel) (by decide +kernel)
theorem inlX11 : GoodIn lw_tbl wsX110 := goodIn_r _ [428, 430, 432, 434, 436, 438, 440, 442, 444] (by decide +kernel) (by decide +kernel)
theorem inlX12 : GoodIn lw_tbl wsX120 := goodIn_r _ [1277, 1279, 1281, 1283, 1285, 1287, 1289, 1291, 1293, 1295, 1297, 1299, 1301, 1303, 1305, 1307, 1309, 1311, 1313, 1315, 1317, 1319, 1321, 1323, 1325, 1327, 1329, 1331, 1333, 1335, 1337, 1339, 1341, 1343, 1345, 1347, 1349, 1351, 1353, 1355, 1357, 1359, 1361, 1363, 1365, 1367, 1369, 1371, 1373, 1375, 1377, 1379, 1381, 1383] (by decide +kernel) (by decide +kernel)
